/-! what the tables say of each method (written by a program) -/
set_option maxRecDepth 100000 in
theorem jk_gr_isDry : gk_jok (gk_M 0) 2 := ⟨gk_mem 2 238 rfl rfl, gk_mem 1 13 rfl rfl, ⟨by decide +kernel, by decide +kernel, by decide +kernel⟩, by decide +kernel⟩
set_option maxRecDepth 100000 in
theorem st_gr_isDry : Cond.static (gk_M 0).1 ∈ gk_TT := gk_mem 2 237 rfl rfl
set_option maxRecDepth 100000 in
theorem jk_gr_rowOf : gk_jok (gk_M 1) 2 := ⟨gk_mem 4 151 rfl rfl, gk_mem 1 13 rfl rfl, ⟨by decide +kernel, by decide +kernel, by decide +kernel⟩, by decide +kernel⟩
set_option maxRecDepth 100000 in
theorem st_gr_rowOf : Cond.static (gk_M 1).1 ∈ gk_TT := gk_mem 4 150 rfl rfl
set_option maxRecDepth 100000 in
theorem jk_gr_withRow : gk_jok (gk_M 2) 3 := ⟨gk_mem 2 148 rfl rfl, gk_mem 1 13 rfl rfl, ⟨by decide +kernel, by decide +kernel, by decide +kernel⟩, by decide +kernel⟩
set_option maxRecDepth 100000 in
theorem st_gr_withRow : Cond.static (gk_M 2).1 ∈ gk_TT := gk_mem 2 147 rfl rfl
set_option maxRecDepth 100000 in
theorem jk_gr_up : gk_jok (gk_M 3) 1 := ⟨gk_mem 2 192 rfl rfl, gk_mem 1 13 rfl rfl, ⟨by decide +kernel, by decide +kernel, by decide +kernel⟩, by decide +kernel⟩
set_option maxRecDepth 100000 in
theorem st_gr_up : Cond.static (gk_M 3).1 ∈ gk_TT := gk_mem 2 191 rfl rfl
set_option maxRecDepth 100000 in
theorem jk_gr_down : gk_jok (gk_M 4) 1 := ⟨gk_mem 2 196 rfl rfl, gk_mem 1 13 rfl rfl, ⟨by decide +kernel, by decide +kernel, by decide +kernel⟩, by decide +kernel⟩
set_option maxRecDepth 100000 in
theorem st_gr_down : Cond.static (gk_M 4).1 ∈ gk_TT := gk_mem 2 195 rfl rfl
set_option maxRecDepth 100000 in
theorem jk_gr_left : gk_jok (gk_M 5) 1 := ⟨gk_mem 2 199 rfl rfl, gk_mem 1 13 rfl rfl, ⟨by decide +kernel, by decide +kernel, by decide +kernel⟩, by decide +kernel⟩
set_option maxRecDepth 100000 in
theorem st_gr_left : Cond.static (gk_M 5).1 ∈ gk_TT := gk_mem 2 198 rfl rfl
set_option maxRecDepth 100000 in
theorem jk_gr_right : gk_jok (gk_M 6) 1 := ⟨gk_mem 2 203 rfl rfl, gk_mem 1 13 rfl rfl, ⟨by decide +kernel, by decide +kernel, by decide +kernel⟩, by decide +kernel⟩
set_option maxRecDepth 100000 in
theorem st_gr_right : Cond.static (gk_M 6).1 ∈ gk_TT := gk_mem 2 202 rfl rfl
set_option maxRecDepth 100000 in
theorem jk_gr_beside : gk_jok (gk_M 7) 1 := ⟨gk_mem 3 73 rfl rfl, gk_mem 1 13 rfl rfl, ⟨by decide +kernel, by decide +kernel, by decide +kernel⟩, by decide +kernel⟩
set_option maxRecDepth 100000 in
theorem st_gr_beside : Cond.static (gk_M 7).1 ∈ gk_TT := gk_mem 3 72 rfl rfl
set_option maxRecDepth 100000 in
theorem jk_gr_firstOf : gk_jok (gk_M 8) 1 := ⟨gk_mem 4 236 rfl rfl, gk_mem 1 13 rfl rfl, ⟨by decide +kernel, by decide +kernel, by decide +kernel⟩, by decide +kernel⟩
set_option maxRecDepth 100000 in
theorem st_gr_firstOf : Cond.static (gk_M 8).1 ∈ gk_TT := gk_mem 4 235 rfl rfl
set_option maxRecDepth 100000 in
theorem jk_gr_wetBeside : gk_jok (gk_M 9) 2 := ⟨gk_mem 3 70 rfl rfl, gk_mem 1 13 rfl rfl, ⟨by decide +kernel, by decide +kernel, by decide +kernel⟩, by decide +kernel⟩
set_option maxRecDepth 100000 in
theorem st_gr_wetBeside : Cond.static (gk_M 9).1 ∈ gk_TT := gk_mem 3 69 rfl rfl
set_option maxRecDepth 100000 in
theorem jk_gr_edges : gk_jok (gk_M 10) 1 := ⟨gk_mem 2 189 rfl rfl, gk_mem 1 13 rfl rfl, ⟨by decide +kernel, by decide +kernel, by decide +kernel⟩, by decide +kernel⟩
set_option maxRecDepth 100000 in
theorem st_gr_edges : Cond.static (gk_M 10).1 ∈ gk_TT := gk_mem 2 188 rfl rfl
set_option maxRecDepth 100000 in
theorem jk_gr_partOf : gk_jok (gk_M 11) 2 := ⟨gk_mem 4 198 rfl rfl, gk_mem 1 13 rfl rfl, ⟨by decide +kernel, by decide +kernel, by decide +kernel⟩, by decide +kernel⟩
set_option maxRecDepth 100000 in
theorem st_gr_partOf : Cond.static (gk_M 11).1 ∈ gk_TT := gk_mem 4 197 rfl rfl
set_option maxRecDepth 100000 in
theorem jk_gr_parts : gk_jok (gk_M 12) 1 := ⟨gk_mem 4 195 rfl rfl, gk_mem 1 13 rfl rfl, ⟨by decide +kernel, by decide +kernel, by decide +kernel⟩, by decide +kernel⟩
set_option maxRecDepth 100000 in
theorem st_gr_parts : Cond.static (gk_M 12).1 ∈ gk_TT := gk_mem 4 194 rfl rfl
set_option maxRecDepth 100000 in
theorem jk_gr_holes : gk_jok (gk_M 13) 1 := ⟨gk_mem 4 201 rfl rfl, gk_mem 1 13 rfl rfl, ⟨by decide +kernel, by decide +kernel, by decide +kernel⟩, by decide +kernel⟩
set_option maxRecDepth 100000 in
theorem st_gr_holes : Cond.static (gk_M 13).1 ∈ gk_TT := gk_mem 4 200 rfl rfl
set_option maxRecDepth 100000 in
theorem jk_gr_shrunk : gk_jok (gk_M 14) 2 := ⟨gk_mem 3 63 rfl rfl, gk_mem 1 13 rfl rfl, ⟨by decide +kernel, by decide +kernel, by decide +kernel⟩, by decide +kernel⟩
set_option maxRecDepth 100000 in
theorem st_gr_shrunk : Cond.static (gk_M 14).1 ∈ gk_TT := gk_mem 3 62 rfl rfl
set_option maxRecDepth 100000 in
theorem jk_gr_depth : gk_jok (gk_M 15) 1 := ⟨gk_mem 4 206 rfl rfl, gk_mem 1 13 rfl rfl, ⟨by decide +kernel, by decide +kernel, by decide +kernel⟩, by decide +kernel⟩
set_option maxRecDepth 100000 in
theorem st_gr_depth : Cond.static (gk_M 15).1 ∈ gk_TT := gk_mem 4 205 rfl rfl
set_option maxRecDepth 100000 in
theorem jk_gr_turnedCell : gk_jok (gk_M 16) 2 := ⟨gk_mem 4 222 rfl rfl, gk_mem 1 13 rfl rfl, ⟨by decide +kernel, by decide +kernel, by decide +kernel⟩, by decide +kernel⟩
set_option maxRecDepth 100000 in
theorem st_gr_turnedCell : Cond.static (gk_M 16).1 ∈ gk_TT := gk_mem 4 221 rfl rfl
set_option maxRecDepth 100000 in
theorem jk_gr_turnedBy : gk_jok (gk_M 17) 2 := ⟨gk_mem 4 218 rfl rfl, gk_mem 1 13 rfl rfl, ⟨by decide +kernel, by decide +kernel, by decide +kernel⟩, by decide +kernel⟩
set_option maxRecDepth 100000 in
theorem st_gr_turnedBy : Cond.static (gk_M 17).1 ∈ gk_TT := gk_mem 4 217 rfl rfl
set_option maxRecDepth 100000 in
theorem jk_gr_cornered : gk_jok (gk_M 18) 1 := ⟨gk_mem 4 214 rfl rfl, gk_mem 1 13 rfl rfl, ⟨by decide +kernel, by decide +kernel, by decide +kernel⟩, by decide +kernel⟩
set_option maxRecDepth 100000 in
theorem st_gr_cornered : Cond.static (gk_M 18).1 ∈ gk_TT := gk_mem 4 213 rfl rfl
set_option maxRecDepth 100000 in
theorem jk_gr_squareCorners : gk_jok (gk_M 19) 2 := ⟨gk_mem 4 232 rfl rfl, gk_mem 1 13 rfl rfl, ⟨by decide +kernel, by decide +kernel, by decide +kernel⟩, by decide +kernel⟩
set_option maxRecDepth 100000 in
theorem st_gr_squareCorners : Cond.static (gk_M 19).1 ∈ gk_TT := gk_mem 4 231 rfl rfl
set_option maxRecDepth 100000 in
theorem jk_gr_squareSide : gk_jok (gk_M 20) 1 := ⟨gk_mem 4 229 rfl rfl, gk_mem 1 13 rfl rfl, ⟨by decide +kernel, by decide +kernel, by decide +kernel⟩, by decide +kernel⟩
set_option maxRecDepth 100000 in
theorem st_gr_squareSide : Cond.static (gk_M 20).1 ∈ gk_TT := gk_mem 4 228 rfl rfl
set_option maxRecDepth 100000 in
theorem jk_gr_squaresFrom : gk_jok (gk_M 21) 2 := ⟨gk_mem 4 239 rfl rfl, gk_mem 1 13 rfl rfl, ⟨by decide +kernel, by decide +kernel, by decide +kernel⟩, by decide +kernel⟩
set_option maxRecDepth 100000 in
theorem st_gr_squaresFrom : Cond.static (gk_M 21).1 ∈ gk_TT := gk_mem 4 238 rfl rfl
set_option maxRecDepth 100000 in
theorem jk_gr_pushed : gk_jok (gk_M 22) 3 := ⟨gk_mem 5 17 rfl rfl, gk_mem 1 13 rfl rfl, ⟨by decide +kernel, by decide +kernel, by decide +kernel⟩, by decide +kernel⟩
set_option maxRecDepth 100000 in
theorem st_gr_pushed : Cond.static (gk_M 22).1 ∈ gk_TT := gk_mem 5 16 rfl rfl
set_option maxRecDepth 100000 in
theorem jk_gr_overlap : gk_jok (gk_M 23) 4 := ⟨gk_mem 5 14 rfl rfl, gk_mem 1 13 rfl rfl, ⟨by decide +kernel, by decide +kernel, by decide +kernel⟩, by decide +kernel⟩
set_option maxRecDepth 100000 in
theorem st_gr_overlap : Cond.static (gk_M 23).1 ∈ gk_TT := gk_mem 5 13 rfl rfl
set_option maxRecDepth 100000 in
theorem jk_gr_couples : gk_jok (gk_M 24) 3 := ⟨gk_mem 5 11 rfl rfl, gk_mem 1 13 rfl rfl, ⟨by decide +kernel, by decide +kernel, by decide +kernel⟩, by decide +kernel⟩
set_option maxRecDepth 100000 in
theorem st_gr_couples : Cond.static (gk_M 24).1 ∈ gk_TT := gk_mem 5 10 rfl rfl
set_option maxRecDepth 100000 in
theorem jk_gr_bestPush : gk_jok (gk_M 25) 2 := ⟨gk_mem 5 8 rfl rfl, gk_mem 1 13 rfl rfl, ⟨by decide +kernel, by decide +kernel, by decide +kernel⟩, by decide +kernel⟩
set_option maxRecDepth 100000 in
theorem st_gr_bestPush : Cond.static (gk_M 25).1 ∈ gk_TT := gk_mem 5 7 rfl rfl
set_option maxRecDepth 100000 in
theorem jk_gr_fewestSteps : gk_jok (gk_M 26) 3 := ⟨gk_mem 5 26 rfl rfl, gk_mem 1 13 rfl rfl, ⟨by decide +kernel, by decide +kernel, by decide +kernel⟩, by decide +kernel⟩
set_option maxRecDepth 100000 in
theorem st_gr_fewestSteps : Cond.static (gk_M 26).1 ∈ gk_TT := gk_mem 5 25 rfl rfl
set_option maxRecDepth 100000 in
theorem jk_gr_fewestTurnings : gk_jok (gk_M 27) 3 := ⟨gk_mem 5 29 rfl rfl, gk_mem 1 13 rfl rfl, ⟨by decide +kernel, by decide +kernel, by decide +kernel⟩, by decide +kernel⟩
set_option maxRecDepth 100000 in
theorem st_gr_fewestTurnings : Cond.static (gk_M 27).1 ∈ gk_TT := gk_mem 5 28 rfl rfl
set_option maxRecDepth 100000 in
theorem jk_gr_straightFrom : gk_jok (gk_M 28) 2 := ⟨gk_mem 5 32 rfl rfl, gk_mem 1 13 rfl rfl, ⟨by decide +kernel, by decide +kernel, by decide +kernel⟩, by decide +kernel⟩
set_option maxRecDepth 100000 in
theorem st_gr_straightFrom : Cond.static (gk_M 28).1 ∈ gk_TT := gk_mem 5 31 rfl rfl
set_option maxRecDepth 100000 in
theorem jk_gr_sumOf : gk_jok (gk_M 29) 2 := ⟨gk_mem 5 39 rfl rfl, gk_mem 1 13 rfl rfl, ⟨by decide +kernel, by decide +kernel, by decide +kernel⟩, by decide +kernel⟩
set_option maxRecDepth 100000 in
theorem st_gr_sumOf : Cond.static (gk_M 29).1 ∈ gk_TT := gk_mem 5 38 rfl rfl
set_option maxRecDepth 100000 in
theorem jk_gr_hasSameSums : gk_jok (gk_M 30) 2 := ⟨gk_mem 5 49 rfl rfl, gk_mem 1 13 rfl rfl, ⟨by decide +kernel, by decide +kernel, by decide +kernel⟩, by decide +kernel⟩
set_option maxRecDepth 100000 in
theorem st_gr_hasSameSums : Cond.static (gk_M 30).1 ∈ gk_TT := gk_mem 5 48 rfl rfl
set_option maxRecDepth 100000 in
theorem jk_gr_firstSwitch : gk_jok (gk_M 31) 1 := ⟨gk_mem 5 42 rfl rfl, gk_mem 1 13 rfl rfl, ⟨by decide +kernel, by decide +kernel, by decide +kernel⟩, by decide +kernel⟩
set_option maxRecDepth 100000 in
theorem st_gr_firstSwitch : Cond.static (gk_M 31).1 ∈ gk_TT := gk_mem 5 41 rfl rfl
set_option maxRecDepth 100000 in
theorem jk_gr_switchColumns : gk_jok (gk_M 32) 2 := ⟨gk_mem 5 46 rfl rfl, gk_mem 1 13 rfl rfl, ⟨by decide +kernel, by decide +kernel, by decide +kernel⟩, by decide +kernel⟩
set_option maxRecDepth 100000 in
theorem st_gr_switchColumns : Cond.static (gk_M 32).1 ∈ gk_TT := gk_mem 5 45 rfl rfl
set_option maxRecDepth 100000 in
theorem jk_gr_isLie : gk_jok (gk_M 33) 3 := ⟨gk_mem 5 98 rfl rfl, gk_mem 1 13 rfl rfl, ⟨by decide +kernel, by decide +kernel, by decide +kernel⟩, by decide +kernel⟩
set_option maxRecDepth 100000 in
theorem st_gr_isLie : Cond.static (gk_M 33).1 ∈ gk_TT := gk_mem 5 97 rfl rfl
set_option maxRecDepth 100000 in
theorem jk_gr_standings : gk_jok (gk_M 34) 1 := ⟨gk_mem 5 108 rfl rfl, gk_mem 1 13 rfl rfl, ⟨by decide +kernel, by decide +kernel, by decide +kernel⟩, by decide +kernel⟩
set_option maxRecDepth 100000 in
theorem st_gr_standings : Cond.static (gk_M 34).1 ∈ gk_TT := gk_mem 5 107 rfl rfl
set_option maxRecDepth 100000 in
theorem jk_gr_rightHeels : gk_jok (gk_M 35) 1 := ⟨gk_mem 5 111 rfl rfl, gk_mem 1 13 rfl rfl, ⟨by decide +kernel, by decide +kernel, by decide +kernel⟩, by decide +kernel⟩
set_option maxRecDepth 100000 in
theorem st_gr_rightHeels : Cond.static (gk_M 35).1 ∈ gk_TT := gk_mem 5 110 rfl rfl
set_option maxRecDepth 100000 in
theorem jk_ke_init : gk_jok (gk_M 36) 4 := ⟨gk_mem 2 39 rfl rfl, gk_mem 1 10 rfl rfl, ⟨by decide +kernel, by decide +kernel, by decide +kernel⟩, by decide +kernel⟩
set_option maxRecDepth 100000 in
theorem im_ke_init : Cond.instanceMethod (gk_M 36).1 ∈ gk_TT := gk_mem 2 38 rfl rfl
set_option maxRecDepth 100000 in
theorem jk_ke_canDo : gk_jok (gk_M 37) 3 := ⟨gk_mem 2 163 rfl rfl, gk_mem 1 10 rfl rfl, ⟨by decide +kernel, by decide +kernel, by decide +kernel⟩, by decide +kernel⟩
set_option maxRecDepth 100000 in
theorem im_ke_canDo : Cond.instanceMethod (gk_M 37).1 ∈ gk_TT := gk_mem 2 161 rfl rfl
set_option maxRecDepth 100000 in
theorem sl_ke_canDo : Cond.selects (gk_M 37).1.cls (gk_M 37).1 (gk_M 37).1 ∈ gk_TT := gk_mem 2 162 rfl rfl
set_option maxRecDepth 100000 in
theorem jk_ke_carryOut : gk_jok (gk_M 38) 3 := ⟨gk_mem 3 13 rfl rfl, gk_mem 1 10 rfl rfl, ⟨by decide +kernel, by decide +kernel, by decide +kernel⟩, by decide +kernel⟩
set_option maxRecDepth 100000 in
theorem im_ke_carryOut : Cond.instanceMethod (gk_M 38).1 ∈ gk_TT := gk_mem 3 11 rfl rfl
set_option maxRecDepth 100000 in
theorem sl_ke_carryOut : Cond.selects (gk_M 38).1.cls (gk_M 38).1 (gk_M 38).1 ∈ gk_TT := gk_mem 3 12 rfl rfl
set_option maxRecDepth 100000 in
theorem jk_ke_purchase : gk_jok (gk_M 39) 2 := ⟨gk_mem 3 17 rfl rfl, gk_mem 1 10 rfl rfl, ⟨by decide +kernel, by decide +kernel, by decide +kernel⟩, by decide +kernel⟩
set_option maxRecDepth 100000 in
theorem im_ke_purchase : Cond.instanceMethod (gk_M 39).1 ∈ gk_TT := gk_mem 3 16 rfl rfl
set_option maxRecDepth 100000 in
theorem sl_ke_purchase : Cond.selects (gk_M 39).1.cls (gk_M 39).1 (gk_M 39).1 ∈ gk_TT := gk_mem 0 3 rfl rfl
set_option maxRecDepth 100000 in
theorem jk_ke_partWith : gk_jok (gk_M 40) 2 := ⟨gk_mem 3 25 rfl rfl, gk_mem 1 10 rfl rfl, ⟨by decide +kernel, by decide +kernel, by decide +kernel⟩, by decide +kernel⟩
set_option maxRecDepth 100000 in
theorem im_ke_partWith : Cond.instanceMethod (gk_M 40).1 ∈ gk_TT := gk_mem 3 24 rfl rfl
set_option maxRecDepth 100000 in
theorem sl_ke_partWith : Cond.selects (gk_M 40).1.cls (gk_M 40).1 (gk_M 40).1 ∈ gk_TT := gk_mem 0 5 rfl rfl
set_option maxRecDepth 100000 in
theorem jk_ke_note : gk_jok (gk_M 41) 3 := ⟨gk_mem 3 21 rfl rfl, gk_mem 1 10 rfl rfl, ⟨by decide +kernel, by decide +kernel, by decide +kernel⟩, by decide +kernel⟩
set_option maxRecDepth 100000 in
theorem im_ke_note : Cond.instanceMethod (gk_M 41).1 ∈ gk_TT := gk_mem 3 20 rfl rfl
set_option maxRecDepth 100000 in
theorem sl_ke_note : Cond.selects (gk_M 41).1.cls (gk_M 41).1 (gk_M 41).1 ∈ gk_TT := gk_mem 0 4 rfl rfl
set_option maxRecDepth 100000 in
theorem jk_ke_passDay : gk_jok (gk_M 42) 0 := ⟨gk_mem 3 41 rfl rfl, gk_mem 1 10 rfl rfl, ⟨by decide +kernel, by decide +kernel, by decide +kernel⟩, by decide +kernel⟩
set_option maxRecDepth 100000 in
theorem im_ke_passDay : Cond.instanceMethod (gk_M 42).1 ∈ gk_TT := gk_mem 3 39 rfl rfl
set_option maxRecDepth 100000 in
theorem sl_ke_passDay : Cond.selects (gk_M 42).1.cls (gk_M 42).1 (gk_M 42).1 ∈ gk_TT := gk_mem 3 40 rfl rfl
set_option maxRecDepth 100000 in
theorem jk_ke_keepDiary : gk_jok (gk_M 43) 0 := ⟨gk_mem 3 45 rfl rfl, gk_mem 1 10 rfl rfl, ⟨by decide +kernel, by decide +kernel, by decide +kernel⟩, by decide +kernel⟩
set_option maxRecDepth 100000 in
theorem im_ke_keepDiary : Cond.instanceMethod (gk_M 43).1 ∈ gk_TT := gk_mem 3 44 rfl rfl
set_option maxRecDepth 100000 in
theorem sl_ke_keepDiary : Cond.selects (gk_M 43).1.cls (gk_M 43).1 (gk_M 43).1 ∈ gk_TT := gk_mem 0 6 rfl rfl
set_option maxRecDepth 100000 in
theorem jk_ke_creepIn : gk_jok (gk_M 44) 1 := ⟨gk_mem 3 60 rfl rfl, gk_mem 1 10 rfl rfl, ⟨by decide +kernel, by decide +kernel, by decide +kernel⟩, by decide +kernel⟩
set_option maxRecDepth 100000 in
theorem im_ke_creepIn : Cond.instanceMethod (gk_M 44).1 ∈ gk_TT := gk_mem 3 59 rfl rfl
set_option maxRecDepth 100000 in
theorem sl_ke_creepIn : Cond.selects (gk_M 44).1.cls (gk_M 44).1 (gk_M 44).1 ∈ gk_TT := gk_mem 0 7 rfl rfl
set_option maxRecDepth 100000 in
theorem jk_ke_isHit : gk_jok (gk_M 45) 1 := ⟨gk_mem 3 77 rfl rfl, gk_mem 1 10 rfl rfl, ⟨by decide +kernel, by decide +kernel, by decide +kernel⟩, by decide +kernel⟩
set_option maxRecDepth 100000 in
theorem im_ke_isHit : Cond.instanceMethod (gk_M 45).1 ∈ gk_TT := gk_mem 3 76 rfl rfl
set_option maxRecDepth 100000 in
theorem sl_ke_isHit : Cond.selects (gk_M 45).1.cls (gk_M 45).1 (gk_M 45).1 ∈ gk_TT := gk_mem 0 8 rfl rfl
set_option maxRecDepth 100000 in
theorem jk_ke_receive : gk_jok (gk_M 46) 1 := ⟨gk_mem 3 88 rfl rfl, gk_mem 1 10 rfl rfl, ⟨by decide +kernel, by decide +kernel, by decide +kernel⟩, by decide +kernel⟩
set_option maxRecDepth 100000 in
theorem im_ke_receive : Cond.instanceMethod (gk_M 46).1 ∈ gk_TT := gk_mem 3 87 rfl rfl
set_option maxRecDepth 100000 in
theorem sl_ke_receive : Cond.selects (gk_M 46).1.cls (gk_M 46).1 (gk_M 46).1 ∈ gk_TT := gk_mem 0 9 rfl rfl
set_option maxRecDepth 100000 in
theorem jk_la_init : gk_jok (gk_M 47) 0 := ⟨gk_mem 1 120 rfl rfl, gk_mem 1 5 rfl rfl, ⟨by decide +kernel, by decide +kernel, by decide +kernel⟩, by decide +kernel⟩
set_option maxRecDepth 100000 in
theorem im_la_init : Cond.instanceMethod (gk_M 47).1 ∈ gk_TT := gk_mem 1 119 rfl rfl
set_option maxRecDepth 100000 in
theorem jk_la_clear : gk_jok (gk_M 48) 0 := ⟨gk_mem 3 124 rfl rfl, gk_mem 1 5 rfl rfl, ⟨by decide +kernel, by decide +kernel, by decide +kernel⟩, by decide +kernel⟩
set_option maxRecDepth 100000 in
theorem im_la_clear : Cond.instanceMethod (gk_M 48).1 ∈ gk_TT := gk_mem 3 122 rfl rfl
set_option maxRecDepth 100000 in
theorem sl_la_clear : Cond.selects (gk_M 48).1.cls (gk_M 48).1 (gk_M 48).1 ∈ gk_TT := gk_mem 3 123 rfl rfl
set_option maxRecDepth 100000 in
theorem jk_la_copy : gk_jok (gk_M 49) 1 := ⟨gk_mem 4 136 rfl rfl, gk_mem 1 5 rfl rfl, ⟨by decide +kernel, by decide +kernel, by decide +kernel⟩, by decide +kernel⟩
set_option maxRecDepth 100000 in
theorem im_la_copy : Cond.instanceMethod (gk_M 49).1 ∈ gk_TT := gk_mem 4 134 rfl rfl
set_option maxRecDepth 100000 in
theorem sl_la_copy : Cond.selects (gk_M 49).1.cls (gk_M 49).1 (gk_M 49).1 ∈ gk_TT := gk_mem 4 135 rfl rfl
set_option maxRecDepth 100000 in
theorem jk_la_begin : gk_jok (gk_M 50) 1 := ⟨gk_mem 4 35 rfl rfl, gk_mem 1 5 rfl rfl, ⟨by decide +kernel, by decide +kernel, by decide +kernel⟩, by decide +kernel⟩
set_option maxRecDepth 100000 in
theorem im_la_begin : Cond.instanceMethod (gk_M 50).1 ∈ gk_TT := gk_mem 4 33 rfl rfl
set_option maxRecDepth 100000 in
theorem sl_la_begin : Cond.selects (gk_M 50).1.cls (gk_M 50).1 (gk_M 50).1 ∈ gk_TT := gk_mem 4 34 rfl rfl
set_option maxRecDepth 100000 in
theorem jk_la_beginWhen : gk_jok (gk_M 51) 0 := ⟨gk_mem 4 68 rfl rfl, gk_mem 1 5 rfl rfl, ⟨by decide +kernel, by decide +kernel, by decide +kernel⟩, by decide +kernel⟩
set_option maxRecDepth 100000 in
theorem im_la_beginWhen : Cond.instanceMethod (gk_M 51).1 ∈ gk_TT := gk_mem 4 66 rfl rfl
set_option maxRecDepth 100000 in
theorem sl_la_beginWhen : Cond.selects (gk_M 51).1.cls (gk_M 51).1 (gk_M 51).1 ∈ gk_TT := gk_mem 4 67 rfl rfl
set_option maxRecDepth 100000 in
theorem jk_la_finish : gk_jok (gk_M 52) 0 := ⟨gk_mem 4 88 rfl rfl, gk_mem 1 5 rfl rfl, ⟨by decide +kernel, by decide +kernel, by decide +kernel⟩, by decide +kernel⟩
set_option maxRecDepth 100000 in
theorem im_la_finish : Cond.instanceMethod (gk_M 52).1 ∈ gk_TT := gk_mem 4 86 rfl rfl
set_option maxRecDepth 100000 in
theorem sl_la_finish : Cond.selects (gk_M 52).1.cls (gk_M 52).1 (gk_M 52).1 ∈ gk_TT := gk_mem 4 87 rfl rfl
set_option maxRecDepth 100000 in
theorem jk_la_add : gk_jok (gk_M 53) 2 := ⟨gk_mem 4 51 rfl rfl, gk_mem 1 5 rfl rfl, ⟨by decide +kernel, by decide +kernel, by decide +kernel⟩, by decide +kernel⟩
set_option maxRecDepth 100000 in
theorem im_la_add : Cond.instanceMethod (gk_M 53).1 ∈ gk_TT := gk_mem 4 49 rfl rfl
set_option maxRecDepth 100000 in
theorem sl_la_add : Cond.selects (gk_M 53).1.cls (gk_M 53).1 (gk_M 53).1 ∈ gk_TT := gk_mem 4 50 rfl rfl
set_option maxRecDepth 100000 in
theorem jk_pa_init : gk_jok (gk_M 54) 1 := ⟨gk_mem 1 230 rfl rfl, gk_mem 1 8 rfl rfl, ⟨by decide +kernel, by decide +kernel, by decide +kernel⟩, by decide +kernel⟩
set_option maxRecDepth 100000 in
theorem im_pa_init : Cond.instanceMethod (gk_M 54).1 ∈ gk_TT := gk_mem 1 229 rfl rfl
set_option maxRecDepth 100000 in
theorem jk_pa_parse : gk_jok (gk_M 55) 2 := ⟨gk_mem 3 116 rfl rfl, gk_mem 1 8 rfl rfl, ⟨by decide +kernel, by decide +kernel, by decide +kernel⟩, by decide +kernel⟩
set_option maxRecDepth 100000 in
theorem im_pa_parse : Cond.instanceMethod (gk_M 55).1 ∈ gk_TT := gk_mem 3 114 rfl rfl
set_option maxRecDepth 100000 in
theorem sl_pa_parse : Cond.selects (gk_M 55).1.cls (gk_M 55).1 (gk_M 55).1 ∈ gk_TT := gk_mem 3 115 rfl rfl
set_option maxRecDepth 100000 in
theorem jk_pa_canBegin : gk_jok (gk_M 56) 1 := ⟨gk_mem 4 22 rfl rfl, gk_mem 1 8 rfl rfl, ⟨by decide +kernel, by decide +kernel, by decide +kernel⟩, by decide +kernel⟩
set_option maxRecDepth 100000 in
theorem im_pa_canBegin : Cond.instanceMethod (gk_M 56).1 ∈ gk_TT := gk_mem 4 21 rfl rfl
set_option maxRecDepth 100000 in
theorem sl_pa_canBegin : Cond.selects (gk_M 56).1.cls (gk_M 56).1 (gk_M 56).1 ∈ gk_TT := gk_mem 0 16 rfl rfl
set_option maxRecDepth 100000 in
theorem jk_pa_refuse : gk_jok (gk_M 57) 1 := ⟨gk_mem 4 26 rfl rfl, gk_mem 1 8 rfl rfl, ⟨by decide +kernel, by decide +kernel, by decide +kernel⟩, by decide +kernel⟩
set_option maxRecDepth 100000 in
theorem im_pa_refuse : Cond.instanceMethod (gk_M 57).1 ∈ gk_TT := gk_mem 4 25 rfl rfl
set_option maxRecDepth 100000 in
theorem sl_pa_refuse : Cond.selects (gk_M 57).1.cls (gk_M 57).1 (gk_M 57).1 ∈ gk_TT := gk_mem 0 17 rfl rfl
set_option maxRecDepth 100000 in
theorem jk_pa_step : gk_jok (gk_M 58) 0 := ⟨gk_mem 4 39 rfl rfl, gk_mem 1 8 rfl rfl, ⟨by decide +kernel, by decide +kernel, by decide +kernel⟩, by decide +kernel⟩
set_option maxRecDepth 100000 in
theorem im_pa_step : Cond.instanceMethod (gk_M 58).1 ∈ gk_TT := gk_mem 4 38 rfl rfl
set_option maxRecDepth 100000 in
theorem sl_pa_step : Cond.selects (gk_M 58).1.cls (gk_M 58).1 (gk_M 58).1 ∈ gk_TT := gk_mem 0 19 rfl rfl
set_option maxRecDepth 100000 in
theorem jk_pa_take : gk_jok (gk_M 59) 1 := ⟨gk_mem 4 80 rfl rfl, gk_mem 1 8 rfl rfl, ⟨by decide +kernel, by decide +kernel, by decide +kernel⟩, by decide +kernel⟩
set_option maxRecDepth 100000 in
theorem im_pa_take : Cond.instanceMethod (gk_M 59).1 ∈ gk_TT := gk_mem 4 79 rfl rfl
set_option maxRecDepth 100000 in
theorem sl_pa_take : Cond.selects (gk_M 59).1.cls (gk_M 59).1 (gk_M 59).1 ∈ gk_TT := gk_mem 0 27 rfl rfl
set_option maxRecDepth 100000 in
theorem jk_pa_takeNumber : gk_jok (gk_M 60) 3 := ⟨gk_mem 4 59 rfl rfl, gk_mem 1 8 rfl rfl, ⟨by decide +kernel, by decide +kernel, by decide +kernel⟩, by decide +kernel⟩
set_option maxRecDepth 100000 in
theorem im_pa_takeNumber : Cond.instanceMethod (gk_M 60).1 ∈ gk_TT := gk_mem 4 58 rfl rfl
set_option maxRecDepth 100000 in
theorem sl_pa_takeNumber : Cond.selects (gk_M 60).1.cls (gk_M 60).1 (gk_M 60).1 ∈ gk_TT := gk_mem 0 23 rfl rfl
set_option maxRecDepth 100000 in
theorem jk_pa_takePlace : gk_jok (gk_M 61) 1 := ⟨gk_mem 4 112 rfl rfl, gk_mem 1 8 rfl rfl, ⟨by decide +kernel, by decide +kernel, by decide +kernel⟩, by decide +kernel⟩
set_option maxRecDepth 100000 in
theorem im_pa_takePlace : Cond.instanceMethod (gk_M 61).1 ∈ gk_TT := gk_mem 4 111 rfl rfl
set_option maxRecDepth 100000 in
theorem sl_pa_takePlace : Cond.selects (gk_M 61).1.cls (gk_M 61).1 (gk_M 61).1 ∈ gk_TT := gk_mem 0 33 rfl rfl
set_option maxRecDepth 100000 in
theorem jk_pa_takeRoom : gk_jok (gk_M 62) 1 := ⟨gk_mem 4 96 rfl rfl, gk_mem 1 8 rfl rfl, ⟨by decide +kernel, by decide +kernel, by decide +kernel⟩, by decide +kernel⟩
set_option maxRecDepth 100000 in
theorem im_pa_takeRoom : Cond.instanceMethod (gk_M 62).1 ∈ gk_TT := gk_mem 4 95 rfl rfl
set_option maxRecDepth 100000 in
theorem sl_pa_takeRoom : Cond.selects (gk_M 62).1.cls (gk_M 62).1 (gk_M 62).1 ∈ gk_TT := gk_mem 0 30 rfl rfl
set_option maxRecDepth 100000 in
theorem jk_pa_readPassage : gk_jok (gk_M 63) 0 := ⟨gk_mem 4 92 rfl rfl, gk_mem 1 8 rfl rfl, ⟨by decide +kernel, by decide +kernel, by decide +kernel⟩, by decide +kernel⟩
set_option maxRecDepth 100000 in
theorem im_pa_readPassage : Cond.instanceMethod (gk_M 63).1 ∈ gk_TT := gk_mem 4 91 rfl rfl
set_option maxRecDepth 100000 in
theorem sl_pa_readPassage : Cond.selects (gk_M 63).1.cls (gk_M 63).1 (gk_M 63).1 ∈ gk_TT := gk_mem 0 29 rfl rfl
set_option maxRecDepth 100000 in
theorem jk_pa_readVoucher : gk_jok (gk_M 64) 0 := ⟨gk_mem 4 124 rfl rfl, gk_mem 1 8 rfl rfl, ⟨by decide +kernel, by decide +kernel, by decide +kernel⟩, by decide +kernel⟩
set_option maxRecDepth 100000 in
theorem im_pa_readVoucher : Cond.instanceMethod (gk_M 64).1 ∈ gk_TT := gk_mem 4 123 rfl rfl
set_option maxRecDepth 100000 in
theorem sl_pa_readVoucher : Cond.selects (gk_M 64).1.cls (gk_M 64).1 (gk_M 64).1 ∈ gk_TT := gk_mem 0 35 rfl rfl
set_option maxRecDepth 100000 in
theorem jk_pa_readEntry : gk_jok (gk_M 65) 0 := ⟨gk_mem 4 104 rfl rfl, gk_mem 1 8 rfl rfl, ⟨by decide +kernel, by decide +kernel, by decide +kernel⟩, by decide +kernel⟩
set_option maxRecDepth 100000 in
theorem im_pa_readEntry : Cond.instanceMethod (gk_M 65).1 ∈ gk_TT := gk_mem 4 103 rfl rfl
set_option maxRecDepth 100000 in
theorem sl_pa_readEntry : Cond.selects (gk_M 65).1.cls (gk_M 65).1 (gk_M 65).1 ∈ gk_TT := gk_mem 0 31 rfl rfl
set_option maxRecDepth 100000 in
theorem jk_pa_actOfWord : gk_jok (gk_M 66) 0 := ⟨gk_mem 4 108 rfl rfl, gk_mem 1 8 rfl rfl, ⟨by decide +kernel, by decide +kernel, by decide +kernel⟩, by decide +kernel⟩
set_option maxRecDepth 100000 in
theorem im_pa_actOfWord : Cond.instanceMethod (gk_M 66).1 ∈ gk_TT := gk_mem 4 107 rfl rfl
set_option maxRecDepth 100000 in
theorem sl_pa_actOfWord : Cond.selects (gk_M 66).1.cls (gk_M 66).1 (gk_M 66).1 ∈ gk_TT := gk_mem 0 32 rfl rfl
set_option maxRecDepth 100000 in
theorem jk_pa_takeDetail : gk_jok (gk_M 67) 1 := ⟨gk_mem 4 116 rfl rfl, gk_mem 1 8 rfl rfl, ⟨by decide +kernel, by decide +kernel, by decide +kernel⟩, by decide +kernel⟩
set_option maxRecDepth 100000 in
theorem im_pa_takeDetail : Cond.instanceMethod (gk_M 67).1 ∈ gk_TT := gk_mem 4 115 rfl rfl
set_option maxRecDepth 100000 in
theorem sl_pa_takeDetail : Cond.selects (gk_M 67).1.cls (gk_M 67).1 (gk_M 67).1 ∈ gk_TT := gk_mem 0 34 rfl rfl
set_option maxRecDepth 100000 in
theorem jk_pa_readLaw : gk_jok (gk_M 68) 0 := ⟨gk_mem 4 31 rfl rfl, gk_mem 1 8 rfl rfl, ⟨by decide +kernel, by decide +kernel, by decide +kernel⟩, by decide +kernel⟩
set_option maxRecDepth 100000 in
theorem im_pa_readLaw : Cond.instanceMethod (gk_M 68).1 ∈ gk_TT := gk_mem 4 30 rfl rfl
set_option maxRecDepth 100000 in
theorem sl_pa_readLaw : Cond.selects (gk_M 68).1.cls (gk_M 68).1 (gk_M 68).1 ∈ gk_TT := gk_mem 0 18 rfl rfl
set_option maxRecDepth 100000 in
theorem jk_pa_readCondition : gk_jok (gk_M 69) 1 := ⟨gk_mem 4 72 rfl rfl, gk_mem 1 8 rfl rfl, ⟨by decide +kernel, by decide +kernel, by decide +kernel⟩, by decide +kernel⟩
set_option maxRecDepth 100000 in
theorem im_pa_readCondition : Cond.instanceMethod (gk_M 69).1 ∈ gk_TT := gk_mem 4 71 rfl rfl
set_option maxRecDepth 100000 in
theorem sl_pa_readCondition : Cond.selects (gk_M 69).1.cls (gk_M 69).1 (gk_M 69).1 ∈ gk_TT := gk_mem 0 25 rfl rfl
set_option maxRecDepth 100000 in
theorem jk_pa_readOne : gk_jok (gk_M 70) 1 := ⟨gk_mem 4 76 rfl rfl, gk_mem 1 8 rfl rfl, ⟨by decide +kernel, by decide +kernel, by decide +kernel⟩, by decide +kernel⟩
set_option maxRecDepth 100000 in
theorem im_pa_readOne : Cond.instanceMethod (gk_M 70).1 ∈ gk_TT := gk_mem 4 75 rfl rfl
set_option maxRecDepth 100000 in
theorem sl_pa_readOne : Cond.selects (gk_M 70).1.cls (gk_M 70).1 (gk_M 70).1 ∈ gk_TT := gk_mem 0 26 rfl rfl
set_option maxRecDepth 100000 in
theorem jk_pa_comparison : gk_jok (gk_M 71) 0 := ⟨gk_mem 4 84 rfl rfl, gk_mem 1 8 rfl rfl, ⟨by decide +kernel, by decide +kernel, by decide +kernel⟩, by decide +kernel⟩
set_option maxRecDepth 100000 in
theorem im_pa_comparison : Cond.instanceMethod (gk_M 71).1 ∈ gk_TT := gk_mem 4 83 rfl rfl
set_option maxRecDepth 100000 in
theorem sl_pa_comparison : Cond.selects (gk_M 71).1.cls (gk_M 71).1 (gk_M 71).1 ∈ gk_TT := gk_mem 0 28 rfl rfl
set_option maxRecDepth 100000 in
theorem jk_pa_readSum : gk_jok (gk_M 72) 0 := ⟨gk_mem 4 43 rfl rfl, gk_mem 1 8 rfl rfl, ⟨by decide +kernel, by decide +kernel, by decide +kernel⟩, by decide +kernel⟩
set_option maxRecDepth 100000 in
theorem im_pa_readSum : Cond.instanceMethod (gk_M 72).1 ∈ gk_TT := gk_mem 4 42 rfl rfl
set_option maxRecDepth 100000 in
theorem sl_pa_readSum : Cond.selects (gk_M 72).1.cls (gk_M 72).1 (gk_M 72).1 ∈ gk_TT := gk_mem 0 20 rfl rfl
set_option maxRecDepth 100000 in
theorem jk_pa_addWaiting : gk_jok (gk_M 73) 1 := ⟨gk_mem 4 64 rfl rfl, gk_mem 1 8 rfl rfl, ⟨by decide +kernel, by decide +kernel, by decide +kernel⟩, by decide +kernel⟩
set_option maxRecDepth 100000 in
theorem im_pa_addWaiting : Cond.instanceMethod (gk_M 73).1 ∈ gk_TT := gk_mem 4 63 rfl rfl
set_option maxRecDepth 100000 in
theorem sl_pa_addWaiting : Cond.selects (gk_M 73).1.cls (gk_M 73).1 (gk_M 73).1 ∈ gk_TT := gk_mem 0 24 rfl rfl
set_option maxRecDepth 100000 in
theorem jk_pa_isReckoning : gk_jok (gk_M 74) 0 := ⟨gk_mem 4 55 rfl rfl, gk_mem 1 8 rfl rfl, ⟨by decide +kernel, by decide +kernel, by decide +kernel⟩, by decide +kernel⟩
set_option maxRecDepth 100000 in
theorem im_pa_isReckoning : Cond.instanceMethod (gk_M 74).1 ∈ gk_TT := gk_mem 4 54 rfl rfl
set_option maxRecDepth 100000 in
theorem sl_pa_isReckoning : Cond.selects (gk_M 74).1.cls (gk_M 74).1 (gk_M 74).1 ∈ gk_TT := gk_mem 0 22 rfl rfl
set_option maxRecDepth 100000 in
theorem jk_pa_readUnit : gk_jok (gk_M 75) 0 := ⟨gk_mem 4 47 rfl rfl, gk_mem 1 8 rfl rfl, ⟨by decide +kernel, by decide +kernel, by decide +kernel⟩, by decide +kernel⟩
set_option maxRecDepth 100000 in
theorem im_pa_readUnit : Cond.instanceMethod (gk_M 75).1 ∈ gk_TT := gk_mem 4 46 rfl rfl
set_option maxRecDepth 100000 in
theorem sl_pa_readUnit : Cond.selects (gk_M 75).1.cls (gk_M 75).1 (gk_M 75).1 ∈ gk_TT := gk_mem 0 21 rfl rfl
set_option maxRecDepth 100000 in
theorem jk_ps_init : gk_jok (gk_M 76) 0 := ⟨gk_mem 1 180 rfl rfl, gk_mem 1 6 rfl rfl, ⟨by decide +kernel, by decide +kernel, by decide +kernel⟩, by decide +kernel⟩
set_option maxRecDepth 100000 in
theorem im_ps_init : Cond.instanceMethod (gk_M 76).1 ∈ gk_TT := gk_mem 1 179 rfl rfl
set_option maxRecDepth 100000 in
theorem jk_ps_keep : gk_jok (gk_M 77) 1 := ⟨gk_mem 3 2 rfl rfl, gk_mem 1 6 rfl rfl, ⟨by decide +kernel, by decide +kernel, by decide +kernel⟩, by decide +kernel⟩
set_option maxRecDepth 100000 in
theorem im_ps_keep : Cond.instanceMethod (gk_M 77).1 ∈ gk_TT := gk_mem 3 0 rfl rfl
set_option maxRecDepth 100000 in
theorem sl_ps_keep : Cond.selects (gk_M 77).1.cls (gk_M 77).1 (gk_M 77).1 ∈ gk_TT := gk_mem 3 1 rfl rfl
set_option maxRecDepth 100000 in
theorem jk_ps_goBack : gk_jok (gk_M 78) 1 := ⟨gk_mem 5 130 rfl rfl, gk_mem 1 6 rfl rfl, ⟨by decide +kernel, by decide +kernel, by decide +kernel⟩, by decide +kernel⟩
set_option maxRecDepth 100000 in
theorem im_ps_goBack : Cond.instanceMethod (gk_M 78).1 ∈ gk_TT := gk_mem 5 128 rfl rfl
set_option maxRecDepth 100000 in
theorem sl_ps_goBack : Cond.selects (gk_M 78).1.cls (gk_M 78).1 (gk_M 78).1 ∈ gk_TT := gk_mem 5 129 rfl rfl
set_option maxRecDepth 100000 in
theorem jk_ps_forget : gk_jok (gk_M 79) 0 := ⟨gk_mem 2 126 rfl rfl, gk_mem 1 6 rfl rfl, ⟨by decide +kernel, by decide +kernel, by decide +kernel⟩, by decide +kernel⟩
set_option maxRecDepth 100000 in
theorem im_ps_forget : Cond.instanceMethod (gk_M 79).1 ∈ gk_TT := gk_mem 2 124 rfl rfl
set_option maxRecDepth 100000 in
theorem sl_ps_forget : Cond.selects (gk_M 79).1.cls (gk_M 79).1 (gk_M 79).1 ∈ gk_TT := gk_mem 2 125 rfl rfl
set_option maxRecDepth 100000 in
theorem jk_ta_init : gk_jok (gk_M 80) 0 := ⟨gk_mem 1 200 rfl rfl, gk_mem 1 7 rfl rfl, ⟨by decide +kernel, by decide +kernel, by decide +kernel⟩, by decide +kernel⟩
set_option maxRecDepth 100000 in
theorem im_ta_init : Cond.instanceMethod (gk_M 80).1 ∈ gk_TT := gk_mem 1 199 rfl rfl
set_option maxRecDepth 100000 in
theorem jk_ta_hasSpaceForFive : gk_jok (gk_M 81) 0 := ⟨gk_mem 3 100 rfl rfl, gk_mem 1 7 rfl rfl, ⟨by decide +kernel, by decide +kernel, by decide +kernel⟩, by decide +kernel⟩
set_option maxRecDepth 100000 in
theorem im_ta_hasSpaceForFive : Cond.instanceMethod (gk_M 81).1 ∈ gk_TT := gk_mem 3 98 rfl rfl
set_option maxRecDepth 100000 in
theorem sl_ta_hasSpaceForFive : Cond.selects (gk_M 81).1.cls (gk_M 81).1 (gk_M 81).1 ∈ gk_TT := gk_mem 3 99 rfl rfl
set_option maxRecDepth 100000 in
theorem jk_ta_append : gk_jok (gk_M 82) 1 := ⟨gk_mem 3 104 rfl rfl, gk_mem 1 7 rfl rfl, ⟨by decide +kernel, by decide +kernel, by decide +kernel⟩, by decide +kernel⟩
set_option maxRecDepth 100000 in
theorem im_ta_append : Cond.instanceMethod (gk_M 82).1 ∈ gk_TT := gk_mem 3 102 rfl rfl
set_option maxRecDepth 100000 in
theorem sl_ta_append : Cond.selects (gk_M 82).1.cls (gk_M 82).1 (gk_M 82).1 ∈ gk_TT := gk_mem 3 103 rfl rfl
set_option maxRecDepth 100000 in
theorem jk_ta_cutUp : gk_jok (gk_M 83) 0 := ⟨gk_mem 3 129 rfl rfl, gk_mem 1 7 rfl rfl, ⟨by decide +kernel, by decide +kernel, by decide +kernel⟩, by decide +kernel⟩
set_option maxRecDepth 100000 in
theorem im_ta_cutUp : Cond.instanceMethod (gk_M 83).1 ∈ gk_TT := gk_mem 3 127 rfl rfl
set_option maxRecDepth 100000 in
theorem sl_ta_cutUp : Cond.selects (gk_M 83).1.cls (gk_M 83).1 (gk_M 83).1 ∈ gk_TT := gk_mem 3 128 rfl rfl
set_option maxRecDepth 100000 in
theorem jk_ta_skipBlanks : gk_jok (gk_M 84) 0 := ⟨gk_mem 3 133 rfl rfl, gk_mem 1 7 rfl rfl, ⟨by decide +kernel, by decide +kernel, by decide +kernel⟩, by decide +kernel⟩
set_option maxRecDepth 100000 in
theorem im_ta_skipBlanks : Cond.instanceMethod (gk_M 84).1 ∈ gk_TT := gk_mem 3 132 rfl rfl
set_option maxRecDepth 100000 in
theorem sl_ta_skipBlanks : Cond.selects (gk_M 84).1.cls (gk_M 84).1 (gk_M 84).1 ∈ gk_TT := gk_mem 0 10 rfl rfl
set_option maxRecDepth 100000 in
theorem jk_ta_readWord : gk_jok (gk_M 85) 1 := ⟨gk_mem 3 141 rfl rfl, gk_mem 1 7 rfl rfl, ⟨by decide +kernel, by decide +kernel, by decide +kernel⟩, by decide +kernel⟩
set_option maxRecDepth 100000 in
theorem im_ta_readWord : Cond.instanceMethod (gk_M 85).1 ∈ gk_TT := gk_mem 3 140 rfl rfl
set_option maxRecDepth 100000 in
theorem sl_ta_readWord : Cond.selects (gk_M 85).1.cls (gk_M 85).1 (gk_M 85).1 ∈ gk_TT := gk_mem 0 12 rfl rfl
set_option maxRecDepth 100000 in
theorem jk_ta_isWordAt : gk_jok (gk_M 86) 3 := ⟨gk_mem 3 194 rfl rfl, gk_mem 1 7 rfl rfl, ⟨by decide +kernel, by decide +kernel, by decide +kernel⟩, by decide +kernel⟩
set_option maxRecDepth 100000 in
theorem im_ta_isWordAt : Cond.instanceMethod (gk_M 86).1 ∈ gk_TT := gk_mem 3 193 rfl rfl
set_option maxRecDepth 100000 in
theorem sl_ta_isWordAt : Cond.selects (gk_M 86).1.cls (gk_M 86).1 (gk_M 86).1 ∈ gk_TT := gk_mem 0 13 rfl rfl
set_option maxRecDepth 100000 in
theorem jk_ta_readNumber : gk_jok (gk_M 87) 1 := ⟨gk_mem 3 202 rfl rfl, gk_mem 1 7 rfl rfl, ⟨by decide +kernel, by decide +kernel, by decide +kernel⟩, by decide +kernel⟩
set_option maxRecDepth 100000 in
theorem im_ta_readNumber : Cond.instanceMethod (gk_M 87).1 ∈ gk_TT := gk_mem 3 201 rfl rfl
set_option maxRecDepth 100000 in
theorem sl_ta_readNumber : Cond.selects (gk_M 87).1.cls (gk_M 87).1 (gk_M 87).1 ∈ gk_TT := gk_mem 0 15 rfl rfl
set_option maxRecDepth 100000 in
theorem jk_ta_isLetter : gk_jok (gk_M 88) 1 := ⟨gk_mem 3 137 rfl rfl, gk_mem 1 7 rfl rfl, ⟨by decide +kernel, by decide +kernel, by decide +kernel⟩, by decide +kernel⟩
set_option maxRecDepth 100000 in
theorem im_ta_isLetter : Cond.instanceMethod (gk_M 88).1 ∈ gk_TT := gk_mem 3 136 rfl rfl
set_option maxRecDepth 100000 in
theorem sl_ta_isLetter : Cond.selects (gk_M 88).1.cls (gk_M 88).1 (gk_M 88).1 ∈ gk_TT := gk_mem 0 11 rfl rfl
set_option maxRecDepth 100000 in
theorem jk_ta_isDigit : gk_jok (gk_M 89) 1 := ⟨gk_mem 3 198 rfl rfl, gk_mem 1 7 rfl rfl, ⟨by decide +kernel, by decide +kernel, by decide +kernel⟩, by decide +kernel⟩
set_option maxRecDepth 100000 in
theorem im_ta_isDigit : Cond.instanceMethod (gk_M 89).1 ∈ gk_TT := gk_mem 3 197 rfl rfl
set_option maxRecDepth 100000 in
theorem sl_ta_isDigit : Cond.selects (gk_M 89).1.cls (gk_M 89).1 (gk_M 89).1 ∈ gk_TT := gk_mem 0 14 rfl rfl
set_option maxRecDepth 100000 in
theorem jk_te_init : gk_jok (gk_M 90) 1 := ⟨gk_mem 2 23 rfl rfl, gk_mem 1 9 rfl rfl, ⟨by decide +kernel, by decide +kernel, by decide +kernel⟩, by decide +kernel⟩
set_option maxRecDepth 100000 in
theorem im_te_init : Cond.instanceMethod (gk_M 90).1 ∈ gk_TT := gk_mem 2 22 rfl rfl
set_option maxRecDepth 100000 in
theorem jk_te_worthOf : gk_jok (gk_M 91) 2 := ⟨gk_mem 2 176 rfl rfl, gk_mem 1 9 rfl rfl, ⟨by decide +kernel, by decide +kernel, by decide +kernel⟩, by decide +kernel⟩
set_option maxRecDepth 100000 in
theorem im_te_worthOf : Cond.instanceMethod (gk_M 91).1 ∈ gk_TT := gk_mem 2 174 rfl rfl
set_option maxRecDepth 100000 in
theorem sl_te_worthOf : Cond.selects (gk_M 91).1.cls (gk_M 91).1 (gk_M 91).1 ∈ gk_TT := gk_mem 2 175 rfl rfl
set_option maxRecDepth 100000 in
theorem jk_te_comersTo : gk_jok (gk_M 92) 2 := ⟨gk_mem 3 92 rfl rfl, gk_mem 1 9 rfl rfl, ⟨by decide +kernel, by decide +kernel, by decide +kernel⟩, by decide +kernel⟩
set_option maxRecDepth 100000 in
theorem im_te_comersTo : Cond.instanceMethod (gk_M 92).1 ∈ gk_TT := gk_mem 3 90 rfl rfl
set_option maxRecDepth 100000 in
theorem sl_te_comersTo : Cond.selects (gk_M 92).1.cls (gk_M 92).1 (gk_M 92).1 ∈ gk_TT := gk_mem 3 91 rfl rfl
set_option maxRecDepth 100000 in
theorem jk_te_chanceIn : gk_jok (gk_M 93) 3 := ⟨gk_mem 3 67 rfl rfl, gk_mem 1 9 rfl rfl, ⟨by decide +kernel, by decide +kernel, by decide +kernel⟩, by decide +kernel⟩
set_option maxRecDepth 100000 in
theorem im_te_chanceIn : Cond.instanceMethod (gk_M 93).1 ∈ gk_TT := gk_mem 3 65 rfl rfl
set_option maxRecDepth 100000 in
theorem sl_te_chanceIn : Cond.selects (gk_M 93).1.cls (gk_M 93).1 (gk_M 93).1 ∈ gk_TT := gk_mem 3 66 rfl rfl
set_option maxRecDepth 100000 in
theorem jk_te_held : gk_jok (gk_M 94) 2 := ⟨gk_mem 2 226 rfl rfl, gk_mem 1 9 rfl rfl, ⟨by decide +kernel, by decide +kernel, by decide +kernel⟩, by decide +kernel⟩
set_option maxRecDepth 100000 in
theorem st_te_held : Cond.static (gk_M 94).1 ∈ gk_TT := gk_mem 2 225 rfl rfl
set_option maxRecDepth 100000 in
theorem jk_te_face : gk_jok (gk_M 95) 3 := ⟨gk_mem 2 180 rfl rfl, gk_mem 1 9 rfl rfl, ⟨by decide +kernel, by decide +kernel, by decide +kernel⟩, by decide +kernel⟩
set_option maxRecDepth 100000 in
theorem im_te_face : Cond.instanceMethod (gk_M 95).1 ∈ gk_TT := gk_mem 2 179 rfl rfl
set_option maxRecDepth 100000 in
theorem sl_te_face : Cond.selects (gk_M 95).1.cls (gk_M 95).1 (gk_M 95).1 ∈ gk_TT := gk_mem 0 0 rfl rfl
set_option maxRecDepth 100000 in
theorem jk_te_ask : gk_jok (gk_M 96) 2 := ⟨gk_mem 2 213 rfl rfl, gk_mem 1 9 rfl rfl, ⟨by decide +kernel, by decide +kernel, by decide +kernel⟩, by decide +kernel⟩
set_option maxRecDepth 100000 in
theorem im_te_ask : Cond.instanceMethod (gk_M 96).1 ∈ gk_TT := gk_mem 2 212 rfl rfl
set_option maxRecDepth 100000 in
theorem sl_te_ask : Cond.selects (gk_M 96).1.cls (gk_M 96).1 (gk_M 96).1 ∈ gk_TT := gk_mem 0 1 rfl rfl
set_option maxRecDepth 100000 in
theorem jk_te_run : gk_jok (gk_M 97) 2 := ⟨gk_mem 2 217 rfl rfl, gk_mem 1 9 rfl rfl, ⟨by decide +kernel, by decide +kernel, by decide +kernel⟩, by decide +kernel⟩
set_option maxRecDepth 100000 in
theorem im_te_run : Cond.instanceMethod (gk_M 97).1 ∈ gk_TT := gk_mem 2 216 rfl rfl
set_option maxRecDepth 100000 in
theorem sl_te_run : Cond.selects (gk_M 97).1.cls (gk_M 97).1 (gk_M 97).1 ∈ gk_TT := gk_mem 0 2 rfl rfl
set_option maxRecDepth 100000 in
theorem jk_te_changed : gk_jok (gk_M 98) 3 := ⟨gk_mem 2 220 rfl rfl, gk_mem 1 9 rfl rfl, ⟨by decide +kernel, by decide +kernel, by decide +kernel⟩, by decide +kernel⟩
set_option maxRecDepth 100000 in
theorem st_te_changed : Cond.static (gk_M 98).1 ∈ gk_TT := gk_mem 2 219 rfl rfl
set_option maxRecDepth 100000 in
theorem jk_te_joined : gk_jok (gk_M 99) 3 := ⟨gk_mem 2 223 rfl rfl, gk_mem 1 9 rfl rfl, ⟨by decide +kernel, by decide +kernel, by decide +kernel⟩, by decide +kernel⟩
set_option maxRecDepth 100000 in
theorem st_te_joined : Cond.static (gk_M 99).1 ∈ gk_TT := gk_mem 2 222 rfl rfl
set_option maxRecDepth 100000 in
theorem jk_tx_init : gk_jok (gk_M 100) 0 := ⟨gk_mem 1 114 rfl rfl, gk_mem 1 4 rfl rfl, ⟨by decide +kernel, by decide +kernel, by decide +kernel⟩, by decide +kernel⟩
set_option maxRecDepth 100000 in
theorem im_tx_init : Cond.instanceMethod (gk_M 100).1 ∈ gk_TT := gk_mem 1 113 rfl rfl
set_option maxRecDepth 100000 in
theorem jk_tx_count : gk_jok (gk_M 101) 1 := ⟨gk_mem 3 49 rfl rfl, gk_mem 1 4 rfl rfl, ⟨by decide +kernel, by decide +kernel, by decide +kernel⟩, by decide +kernel⟩
set_option maxRecDepth 100000 in
theorem im_tx_count : Cond.instanceMethod (gk_M 101).1 ∈ gk_TT := gk_mem 3 47 rfl rfl
set_option maxRecDepth 100000 in
theorem sl_tx_count : Cond.selects (gk_M 101).1.cls (gk_M 101).1 (gk_M 101).1 ∈ gk_TT := gk_mem 3 48 rfl rfl
set_option maxRecDepth 100000 in
theorem jk_tx_clearOne : gk_jok (gk_M 102) 1 := ⟨gk_mem 3 120 rfl rfl, gk_mem 1 4 rfl rfl, ⟨by decide +kernel, by decide +kernel, by decide +kernel⟩, by decide +kernel⟩
set_option maxRecDepth 100000 in
theorem im_tx_clearOne : Cond.instanceMethod (gk_M 102).1 ∈ gk_TT := gk_mem 3 118 rfl rfl
set_option maxRecDepth 100000 in
theorem sl_tx_clearOne : Cond.selects (gk_M 102).1.cls (gk_M 102).1 (gk_M 102).1 ∈ gk_TT := gk_mem 3 119 rfl rfl
set_option maxRecDepth 100000 in
theorem jk_tx_copyOne : gk_jok (gk_M 103) 2 := ⟨gk_mem 4 132 rfl rfl, gk_mem 1 4 rfl rfl, ⟨by decide +kernel, by decide +kernel, by decide +kernel⟩, by decide +kernel⟩
set_option maxRecDepth 100000 in
theorem im_tx_copyOne : Cond.instanceMethod (gk_M 103).1 ∈ gk_TT := gk_mem 4 130 rfl rfl
set_option maxRecDepth 100000 in
theorem sl_tx_copyOne : Cond.selects (gk_M 103).1.cls (gk_M 103).1 (gk_M 103).1 ∈ gk_TT := gk_mem 4 131 rfl rfl
set_option maxRecDepth 100000 in
theorem jk_tx_copyAll : gk_jok (gk_M 104) 1 := ⟨gk_mem 5 138 rfl rfl, gk_mem 1 4 rfl rfl, ⟨by decide +kernel, by decide +kernel, by decide +kernel⟩, by decide +kernel⟩
set_option maxRecDepth 100000 in
theorem im_tx_copyAll : Cond.instanceMethod (gk_M 104).1 ∈ gk_TT := gk_mem 5 136 rfl rfl
set_option maxRecDepth 100000 in
theorem sl_tx_copyAll : Cond.selects (gk_M 104).1.cls (gk_M 104).1 (gk_M 104).1 ∈ gk_TT := gk_mem 5 137 rfl rfl
set_option maxRecDepth 100000 in
theorem jk_tx_addPassage : gk_jok (gk_M 105) 3 := ⟨gk_mem 4 100 rfl rfl, gk_mem 1 4 rfl rfl, ⟨by decide +kernel, by decide +kernel, by decide +kernel⟩, by decide +kernel⟩
set_option maxRecDepth 100000 in
theorem im_tx_addPassage : Cond.instanceMethod (gk_M 105).1 ∈ gk_TT := gk_mem 4 98 rfl rfl
set_option maxRecDepth 100000 in
theorem sl_tx_addPassage : Cond.selects (gk_M 105).1.cls (gk_M 105).1 (gk_M 105).1 ∈ gk_TT := gk_mem 4 99 rfl rfl
set_option maxRecDepth 100000 in
theorem jk_tx_addVoucher : gk_jok (gk_M 106) 2 := ⟨gk_mem 4 128 rfl rfl, gk_mem 1 4 rfl rfl, ⟨by decide +kernel, by decide +kernel, by decide +kernel⟩, by decide +kernel⟩
set_option maxRecDepth 100000 in
theorem im_tx_addVoucher : Cond.instanceMethod (gk_M 106).1 ∈ gk_TT := gk_mem 4 126 rfl rfl
set_option maxRecDepth 100000 in
theorem sl_tx_addVoucher : Cond.selects (gk_M 106).1.cls (gk_M 106).1 (gk_M 106).1 ∈ gk_TT := gk_mem 4 127 rfl rfl
set_option maxRecDepth 100000 in
theorem jk_tx_addEntry : gk_jok (gk_M 107) 4 := ⟨gk_mem 4 120 rfl rfl, gk_mem 1 4 rfl rfl, ⟨by decide +kernel, by decide +kernel, by decide +kernel⟩, by decide +kernel⟩
set_option maxRecDepth 100000 in
theorem im_tx_addEntry : Cond.instanceMethod (gk_M 107).1 ∈ gk_TT := gk_mem 4 118 rfl rfl
set_option maxRecDepth 100000 in
theorem sl_tx_addEntry : Cond.selects (gk_M 107).1.cls (gk_M 107).1 (gk_M 107).1 ∈ gk_TT := gk_mem 4 119 rfl rfl
set_option maxRecDepth 100000 in
theorem jk_tr_init : gk_jok (gk_M 108) 0 := ⟨gk_mem 2 61 rfl rfl, gk_mem 1 11 rfl rfl, ⟨by decide +kernel, by decide +kernel, by decide +kernel⟩, by decide +kernel⟩
set_option maxRecDepth 100000 in
theorem im_tr_init : Cond.instanceMethod (gk_M 108).1 ∈ gk_TT := gk_mem 2 60 rfl rfl
set_option maxRecDepth 100000 in
theorem jk_tr_lastRoom : gk_jok (gk_M 109) 2 := ⟨gk_mem 5 67 rfl rfl, gk_mem 1 11 rfl rfl, ⟨by decide +kernel, by decide +kernel, by decide +kernel⟩, by decide +kernel⟩
set_option maxRecDepth 100000 in
theorem im_tr_lastRoom : Cond.instanceMethod (gk_M 109).1 ∈ gk_TT := gk_mem 5 65 rfl rfl
set_option maxRecDepth 100000 in
theorem sl_tr_lastRoom : Cond.selects (gk_M 109).1.cls (gk_M 109).1 (gk_M 109).1 ∈ gk_TT := gk_mem 5 66 rfl rfl
set_option maxRecDepth 100000 in
theorem jk_tr_lengthTo : gk_jok (gk_M 110) 1 := ⟨gk_mem 5 82 rfl rfl, gk_mem 1 11 rfl rfl, ⟨by decide +kernel, by decide +kernel, by decide +kernel⟩, by decide +kernel⟩
set_option maxRecDepth 100000 in
theorem im_tr_lengthTo : Cond.instanceMethod (gk_M 110).1 ∈ gk_TT := gk_mem 5 80 rfl rfl
set_option maxRecDepth 100000 in
theorem sl_tr_lengthTo : Cond.selects (gk_M 110).1.cls (gk_M 110).1 (gk_M 110).1 ∈ gk_TT := gk_mem 5 81 rfl rfl
set_option maxRecDepth 100000 in
theorem jk_tr_measure : gk_jok (gk_M 111) 1 := ⟨gk_mem 5 71 rfl rfl, gk_mem 1 11 rfl rfl, ⟨by decide +kernel, by decide +kernel, by decide +kernel⟩, by decide +kernel⟩
set_option maxRecDepth 100000 in
theorem im_tr_measure : Cond.instanceMethod (gk_M 111).1 ∈ gk_TT := gk_mem 5 70 rfl rfl
set_option maxRecDepth 100000 in
theorem sl_tr_measure : Cond.selects (gk_M 111).1.cls (gk_M 111).1 (gk_M 111).1 ∈ gk_TT := gk_mem 0 37 rfl rfl
set_option maxRecDepth 100000 in
theorem jk_tr_goOn : gk_jok (gk_M 112) 2 := ⟨gk_mem 5 78 rfl rfl, gk_mem 1 11 rfl rfl, ⟨by decide +kernel, by decide +kernel, by decide +kernel⟩, by decide +kernel⟩
set_option maxRecDepth 100000 in
theorem im_tr_goOn : Cond.instanceMethod (gk_M 112).1 ∈ gk_TT := gk_mem 5 77 rfl rfl
set_option maxRecDepth 100000 in
theorem sl_tr_goOn : Cond.selects (gk_M 112).1.cls (gk_M 112).1 (gk_M 112).1 ∈ gk_TT := gk_mem 0 38 rfl rfl
set_option maxRecDepth 100000 in
theorem jk_wo_init : gk_jok (gk_M 113) 0 := ⟨gk_mem 1 34 rfl rfl, gk_mem 1 2 rfl rfl, ⟨by decide +kernel, by decide +kernel, by decide +kernel⟩, by decide +kernel⟩
set_option maxRecDepth 100000 in
theorem im_wo_init : Cond.instanceMethod (gk_M 113).1 ∈ gk_TT := gk_mem 1 33 rfl rfl
set_option maxRecDepth 100000 in
theorem jk_wo_copy : gk_jok (gk_M 114) 1 := ⟨gk_mem 3 6 rfl rfl, gk_mem 1 2 rfl rfl, ⟨by decide +kernel, by decide +kernel, by decide +kernel⟩, by decide +kernel⟩
set_option maxRecDepth 100000 in
theorem im_wo_copy : Cond.instanceMethod (gk_M 114).1 ∈ gk_TT := gk_mem 3 4 rfl rfl
set_option maxRecDepth 100000 in
theorem sl_wo_copy : Cond.selects (gk_M 114).1.cls (gk_M 114).1 (gk_M 114).1 ∈ gk_TT := gk_mem 3 5 rfl rfl
set_option maxRecDepth 100000 in
theorem jk_wo_add : gk_jok (gk_M 115) 1 := ⟨gk_mem 2 137 rfl rfl, gk_mem 1 2 rfl rfl, ⟨by decide +kernel, by decide +kernel, by decide +kernel⟩, by decide +kernel⟩
set_option maxRecDepth 100000 in
theorem im_wo_add : Cond.instanceMethod (gk_M 115).1 ∈ gk_TT := gk_mem 2 135 rfl rfl
set_option maxRecDepth 100000 in
theorem sl_wo_add : Cond.selects (gk_M 115).1.cls (gk_M 115).1 (gk_M 115).1 ∈ gk_TT := gk_mem 2 136 rfl rfl
set_option maxRecDepth 100000 in
theorem jk_wo_has : gk_jok (gk_M 116) 1 := ⟨gk_mem 2 145 rfl rfl, gk_mem 1 2 rfl rfl, ⟨by decide +kernel, by decide +kernel, by decide +kernel⟩, by decide +kernel⟩
set_option maxRecDepth 100000 in
theorem im_wo_has : Cond.instanceMethod (gk_M 116).1 ∈ gk_TT := gk_mem 2 143 rfl rfl
set_option maxRecDepth 100000 in
theorem sl_wo_has : Cond.selects (gk_M 116).1.cls (gk_M 116).1 (gk_M 116).1 ∈ gk_TT := gk_mem 2 144 rfl rfl
set_option maxRecDepth 100000 in
theorem jk_wo_isOwned : gk_jok (gk_M 117) 1 := ⟨gk_mem 2 172 rfl rfl, gk_mem 1 2 rfl rfl, ⟨by decide +kernel, by decide +kernel, by decide +kernel⟩, by decide +kernel⟩
set_option maxRecDepth 100000 in
theorem im_wo_isOwned : Cond.instanceMethod (gk_M 117).1 ∈ gk_TT := gk_mem 2 170 rfl rfl
set_option maxRecDepth 100000 in
theorem sl_wo_isOwned : Cond.selects (gk_M 117).1.cls (gk_M 117).1 (gk_M 117).1 ∈ gk_TT := gk_mem 2 171 rfl rfl
set_option maxRecDepth 100000 in
theorem jk_wo_isHosed : gk_jok (gk_M 118) 1 := ⟨gk_mem 2 209 rfl rfl, gk_mem 1 2 rfl rfl, ⟨by decide +kernel, by decide +kernel, by decide +kernel⟩, by decide +kernel⟩
set_option maxRecDepth 100000 in
theorem im_wo_isHosed : Cond.instanceMethod (gk_M 118).1 ∈ gk_TT := gk_mem 2 207 rfl rfl
set_option maxRecDepth 100000 in
theorem sl_wo_isHosed : Cond.selects (gk_M 118).1.cls (gk_M 118).1 (gk_M 118).1 ∈ gk_TT := gk_mem 2 208 rfl rfl
set_option maxRecDepth 100000 in
theorem jk_wo_isShown : gk_jok (gk_M 119) 1 := ⟨gk_mem 3 55 rfl rfl, gk_mem 1 2 rfl rfl, ⟨by decide +kernel, by decide +kernel, by decide +kernel⟩, by decide +kernel⟩
set_option maxRecDepth 100000 in
theorem im_wo_isShown : Cond.instanceMethod (gk_M 119).1 ∈ gk_TT := gk_mem 3 53 rfl rfl
set_option maxRecDepth 100000 in
theorem sl_wo_isShown : Cond.selects (gk_M 119).1.cls (gk_M 119).1 (gk_M 119).1 ∈ gk_TT := gk_mem 3 54 rfl rfl
set_option maxRecDepth 100000 in
theorem jk_wo_earn : gk_jok (gk_M 120) 1 := ⟨gk_mem 3 29 rfl rfl, gk_mem 1 2 rfl rfl, ⟨by decide +kernel, by decide +kernel, by decide +kernel⟩, by decide +kernel⟩
set_option maxRecDepth 100000 in
theorem im_wo_earn : Cond.instanceMethod (gk_M 120).1 ∈ gk_TT := gk_mem 3 27 rfl rfl
set_option maxRecDepth 100000 in
theorem sl_wo_earn : Cond.selects (gk_M 120).1.cls (gk_M 120).1 (gk_M 120).1 ∈ gk_TT := gk_mem 3 28 rfl rfl
set_option maxRecDepth 100000 in
theorem jk_wo_drawOfThousand : gk_jok (gk_M 121) 0 := ⟨gk_mem 3 81 rfl rfl, gk_mem 1 2 rfl rfl, ⟨by decide +kernel, by decide +kernel, by decide +kernel⟩, by decide +kernel⟩
set_option maxRecDepth 100000 in
theorem im_wo_drawOfThousand : Cond.instanceMethod (gk_M 121).1 ∈ gk_TT := gk_mem 3 79 rfl rfl
set_option maxRecDepth 100000 in
theorem sl_wo_drawOfThousand : Cond.selects (gk_M 121).1.cls (gk_M 121).1 (gk_M 121).1 ∈ gk_TT := gk_mem 3 80 rfl rfl
set_option maxRecDepth 100000 in
theorem jk_wo_dryOf : gk_jok (gk_M 122) 1 := ⟨gk_mem 4 185 rfl rfl, gk_mem 1 2 rfl rfl, ⟨by decide +kernel, by decide +kernel, by decide +kernel⟩, by decide +kernel⟩
set_option maxRecDepth 100000 in
theorem im_wo_dryOf : Cond.instanceMethod (gk_M 122).1 ∈ gk_TT := gk_mem 4 183 rfl rfl
set_option maxRecDepth 100000 in
theorem sl_wo_dryOf : Cond.selects (gk_M 122).1.cls (gk_M 122).1 (gk_M 122).1 ∈ gk_TT := gk_mem 4 184 rfl rfl
set_option maxRecDepth 100000 in
theorem jk_wo_dryOfOwned : gk_jok (gk_M 123) 0 := ⟨gk_mem 4 181 rfl rfl, gk_mem 1 2 rfl rfl, ⟨by decide +kernel, by decide +kernel, by decide +kernel⟩, by decide +kernel⟩
set_option maxRecDepth 100000 in
theorem im_wo_dryOfOwned : Cond.instanceMethod (gk_M 123).1 ∈ gk_TT := gk_mem 4 179 rfl rfl
set_option maxRecDepth 100000 in
theorem sl_wo_dryOfOwned : Cond.selects (gk_M 123).1.cls (gk_M 123).1 (gk_M 123).1 ∈ gk_TT := gk_mem 4 180 rfl rfl
set_option maxRecDepth 100000 in
theorem jk_dp_init : gk_jok (gk_M 124) 0 := ⟨gk_mem 1 26 rfl rfl, gk_mem 1 1 rfl rfl, ⟨by decide +kernel, by decide +kernel, by decide +kernel⟩, by decide +kernel⟩
set_option maxRecDepth 100000 in
theorem im_dp_init : Cond.instanceMethod (gk_M 124).1 ∈ gk_TT := gk_mem 1 25 rfl rfl
set_option maxRecDepth 100000 in
theorem jk_dp_state : gk_jok (gk_M 125) 1 := ⟨gk_mem 2 122 rfl rfl, gk_mem 1 1 rfl rfl, ⟨by decide +kernel, by decide +kernel, by decide +kernel⟩, by decide +kernel⟩
set_option maxRecDepth 100000 in
theorem im_dp_state : Cond.instanceMethod (gk_M 125).1 ∈ gk_TT := gk_mem 2 120 rfl rfl
set_option maxRecDepth 100000 in
theorem sl_dp_state : Cond.selects (gk_M 125).1.cls (gk_M 125).1 (gk_M 125).1 ∈ gk_TT := gk_mem 2 121 rfl rfl
set_option maxRecDepth 100000 in
theorem jk_dp_place : gk_jok (gk_M 126) 1 := ⟨gk_mem 2 130 rfl rfl, gk_mem 1 1 rfl rfl, ⟨by decide +kernel, by decide +kernel, by decide +kernel⟩, by decide +kernel⟩
set_option maxRecDepth 100000 in
theorem im_dp_place : Cond.instanceMethod (gk_M 126).1 ∈ gk_TT := gk_mem 2 128 rfl rfl
set_option maxRecDepth 100000 in
theorem sl_dp_place : Cond.selects (gk_M 126).1.cls (gk_M 126).1 (gk_M 126).1 ∈ gk_TT := gk_mem 2 129 rfl rfl
set_option maxRecDepth 100000 in
theorem jk_dp_row : gk_jok (gk_M 127) 3 := ⟨gk_mem 2 141 rfl rfl, gk_mem 1 1 rfl rfl, ⟨by decide +kernel, by decide +kernel, by decide +kernel⟩, by decide +kernel⟩
set_option maxRecDepth 100000 in
theorem im_dp_row : Cond.instanceMethod (gk_M 127).1 ∈ gk_TT := gk_mem 2 139 rfl rfl
set_option maxRecDepth 100000 in
theorem sl_dp_row : Cond.selects (gk_M 127).1.cls (gk_M 127).1 (gk_M 127).1 ∈ gk_TT := gk_mem 2 140 rfl rfl
set_option maxRecDepth 100000 in
theorem jk_dp_purse : gk_jok (gk_M 128) 1 := ⟨gk_mem 2 154 rfl rfl, gk_mem 1 1 rfl rfl, ⟨by decide +kernel, by decide +kernel, by decide +kernel⟩, by decide +kernel⟩
set_option maxRecDepth 100000 in
theorem im_dp_purse : Cond.instanceMethod (gk_M 128).1 ∈ gk_TT := gk_mem 2 152 rfl rfl
set_option maxRecDepth 100000 in
theorem sl_dp_purse : Cond.selects (gk_M 128).1.cls (gk_M 128).1 (gk_M 128).1 ∈ gk_TT := gk_mem 2 153 rfl rfl
set_option maxRecDepth 100000 in
theorem jk_dp_act : gk_jok (gk_M 129) 3 := ⟨gk_mem 2 159 rfl rfl, gk_mem 1 1 rfl rfl, ⟨by decide +kernel, by decide +kernel, by decide +kernel⟩, by decide +kernel⟩
set_option maxRecDepth 100000 in
theorem im_dp_act : Cond.instanceMethod (gk_M 129).1 ∈ gk_TT := gk_mem 2 157 rfl rfl
set_option maxRecDepth 100000 in
theorem sl_dp_act : Cond.selects (gk_M 129).1.cls (gk_M 129).1 (gk_M 129).1 ∈ gk_TT := gk_mem 2 158 rfl rfl
set_option maxRecDepth 100000 in
theorem jk_dp_days : gk_jok (gk_M 130) 1 := ⟨gk_mem 3 37 rfl rfl, gk_mem 1 1 rfl rfl, ⟨by decide +kernel, by decide +kernel, by decide +kernel⟩, by decide +kernel⟩
set_option maxRecDepth 100000 in
theorem im_dp_days : Cond.instanceMethod (gk_M 130).1 ∈ gk_TT := gk_mem 3 35 rfl rfl
set_option maxRecDepth 100000 in
theorem sl_dp_days : Cond.selects (gk_M 130).1.cls (gk_M 130).1 (gk_M 130).1 ∈ gk_TT := gk_mem 3 36 rfl rfl
set_option maxRecDepth 100000 in
theorem jk_dp_feed : gk_jok (gk_M 131) 5 := ⟨gk_mem 3 96 rfl rfl, gk_mem 1 1 rfl rfl, ⟨by decide +kernel, by decide +kernel, by decide +kernel⟩, by decide +kernel⟩
set_option maxRecDepth 100000 in
theorem im_dp_feed : Cond.instanceMethod (gk_M 131).1 ∈ gk_TT := gk_mem 3 94 rfl rfl
set_option maxRecDepth 100000 in
theorem sl_dp_feed : Cond.selects (gk_M 131).1.cls (gk_M 131).1 (gk_M 131).1 ∈ gk_TT := gk_mem 3 95 rfl rfl
set_option maxRecDepth 100000 in
theorem jk_dp_end : gk_jok (gk_M 132) 1 := ⟨gk_mem 3 108 rfl rfl, gk_mem 1 1 rfl rfl, ⟨by decide +kernel, by decide +kernel, by decide +kernel⟩, by decide +kernel⟩
set_option maxRecDepth 100000 in
theorem im_dp_end : Cond.instanceMethod (gk_M 132).1 ∈ gk_TT := gk_mem 3 106 rfl rfl
set_option maxRecDepth 100000 in
theorem sl_dp_end : Cond.selects (gk_M 132).1.cls (gk_M 132).1 (gk_M 132).1 ∈ gk_TT := gk_mem 3 107 rfl rfl
set_option maxRecDepth 100000 in
theorem jk_dp_text : gk_jok (gk_M 133) 1 := ⟨gk_mem 3 112 rfl rfl, gk_mem 1 1 rfl rfl, ⟨by decide +kernel, by decide +kernel, by decide +kernel⟩, by decide +kernel⟩
set_option maxRecDepth 100000 in
theorem im_dp_text : Cond.instanceMethod (gk_M 133).1 ∈ gk_TT := gk_mem 3 110 rfl rfl
set_option maxRecDepth 100000 in
theorem sl_dp_text : Cond.selects (gk_M 133).1.cls (gk_M 133).1 (gk_M 133).1 ∈ gk_TT := gk_mem 3 111 rfl rfl
set_option maxRecDepth 100000 in
theorem jk_dp_fault : gk_jok (gk_M 134) 1 := ⟨gk_mem 4 144 rfl rfl, gk_mem 1 1 rfl rfl, ⟨by decide +kernel, by decide +kernel, by decide +kernel⟩, by decide +kernel⟩
set_option maxRecDepth 100000 in
theorem im_dp_fault : Cond.instanceMethod (gk_M 134).1 ∈ gk_TT := gk_mem 4 142 rfl rfl
set_option maxRecDepth 100000 in
theorem sl_dp_fault : Cond.selects (gk_M 134).1.cls (gk_M 134).1 (gk_M 134).1 ∈ gk_TT := gk_mem 4 143 rfl rfl
set_option maxRecDepth 100000 in
theorem jk_dp_of : gk_jok (gk_M 135) 2 := ⟨gk_mem 4 148 rfl rfl, gk_mem 1 1 rfl rfl, ⟨by decide +kernel, by decide +kernel, by decide +kernel⟩, by decide +kernel⟩
set_option maxRecDepth 100000 in
theorem im_dp_of : Cond.instanceMethod (gk_M 135).1 ∈ gk_TT := gk_mem 4 146 rfl rfl
set_option maxRecDepth 100000 in
theorem sl_dp_of : Cond.selects (gk_M 135).1.cls (gk_M 135).1 (gk_M 135).1 ∈ gk_TT := gk_mem 4 147 rfl rfl
set_option maxRecDepth 100000 in
theorem jk_dp_creeps : gk_jok (gk_M 136) 2 := ⟨gk_mem 4 159 rfl rfl, gk_mem 1 1 rfl rfl, ⟨by decide +kernel, by decide +kernel, by decide +kernel⟩, by decide +kernel⟩
set_option maxRecDepth 100000 in
theorem im_dp_creeps : Cond.instanceMethod (gk_M 136).1 ∈ gk_TT := gk_mem 4 157 rfl rfl
set_option maxRecDepth 100000 in
theorem sl_dp_creeps : Cond.selects (gk_M 136).1.cls (gk_M 136).1 (gk_M 136).1 ∈ gk_TT := gk_mem 4 158 rfl rfl
set_option maxRecDepth 100000 in
theorem jk_dp_room : gk_jok (gk_M 137) 2 := ⟨gk_mem 4 167 rfl rfl, gk_mem 1 1 rfl rfl, ⟨by decide +kernel, by decide +kernel, by decide +kernel⟩, by decide +kernel⟩
set_option maxRecDepth 100000 in
theorem im_dp_room : Cond.instanceMethod (gk_M 137).1 ∈ gk_TT := gk_mem 4 165 rfl rfl
set_option maxRecDepth 100000 in
theorem sl_dp_room : Cond.selects (gk_M 137).1.cls (gk_M 137).1 (gk_M 137).1 ∈ gk_TT := gk_mem 4 166 rfl rfl
set_option maxRecDepth 100000 in
theorem jk_dp_book : gk_jok (gk_M 138) 2 := ⟨gk_mem 4 172 rfl rfl, gk_mem 1 1 rfl rfl, ⟨by decide +kernel, by decide +kernel, by decide +kernel⟩, by decide +kernel⟩
set_option maxRecDepth 100000 in
theorem im_dp_book : Cond.instanceMethod (gk_M 138).1 ∈ gk_TT := gk_mem 4 170 rfl rfl
set_option maxRecDepth 100000 in
theorem sl_dp_book : Cond.selects (gk_M 138).1.cls (gk_M 138).1 (gk_M 138).1 ∈ gk_TT := gk_mem 4 171 rfl rfl
set_option maxRecDepth 100000 in
theorem jk_dp_goes : gk_jok (gk_M 139) 2 := ⟨gk_mem 4 176 rfl rfl, gk_mem 1 1 rfl rfl, ⟨by decide +kernel, by decide +kernel, by decide +kernel⟩, by decide +kernel⟩
set_option maxRecDepth 100000 in
theorem im_dp_goes : Cond.instanceMethod (gk_M 139).1 ∈ gk_TT := gk_mem 4 174 rfl rfl
set_option maxRecDepth 100000 in
theorem sl_dp_goes : Cond.selects (gk_M 139).1.cls (gk_M 139).1 (gk_M 139).1 ∈ gk_TT := gk_mem 4 175 rfl rfl
set_option maxRecDepth 100000 in
theorem jk_dp_shape : gk_jok (gk_M 140) 2 := ⟨gk_mem 4 190 rfl rfl, gk_mem 1 1 rfl rfl, ⟨by decide +kernel, by decide +kernel, by decide +kernel⟩, by decide +kernel⟩
set_option maxRecDepth 100000 in
theorem im_dp_shape : Cond.instanceMethod (gk_M 140).1 ∈ gk_TT := gk_mem 4 188 rfl rfl
set_option maxRecDepth 100000 in
theorem sl_dp_shape : Cond.selects (gk_M 140).1.cls (gk_M 140).1 (gk_M 140).1 ∈ gk_TT := gk_mem 4 189 rfl rfl
set_option maxRecDepth 100000 in
theorem jk_dp_turned : gk_jok (gk_M 141) 2 := ⟨gk_mem 4 211 rfl rfl, gk_mem 1 1 rfl rfl, ⟨by decide +kernel, by decide +kernel, by decide +kernel⟩, by decide +kernel⟩
set_option maxRecDepth 100000 in
theorem im_dp_turned : Cond.instanceMethod (gk_M 141).1 ∈ gk_TT := gk_mem 4 209 rfl rfl
set_option maxRecDepth 100000 in
theorem sl_dp_turned : Cond.selects (gk_M 141).1.cls (gk_M 141).1 (gk_M 141).1 ∈ gk_TT := gk_mem 4 210 rfl rfl
set_option maxRecDepth 100000 in
theorem jk_dp_square : gk_jok (gk_M 142) 2 := ⟨gk_mem 4 226 rfl rfl, gk_mem 1 1 rfl rfl, ⟨by decide +kernel, by decide +kernel, by decide +kernel⟩, by decide +kernel⟩
set_option maxRecDepth 100000 in
theorem im_dp_square : Cond.instanceMethod (gk_M 142).1 ∈ gk_TT := gk_mem 4 224 rfl rfl
set_option maxRecDepth 100000 in
theorem sl_dp_square : Cond.selects (gk_M 142).1.cls (gk_M 142).1 (gk_M 142).1 ∈ gk_TT := gk_mem 4 225 rfl rfl
set_option maxRecDepth 100000 in
theorem jk_dp_fit : gk_jok (gk_M 143) 3 := ⟨gk_mem 5 5 rfl rfl, gk_mem 1 1 rfl rfl, ⟨by decide +kernel, by decide +kernel, by decide +kernel⟩, by decide +kernel⟩
set_option maxRecDepth 100000 in
theorem im_dp_fit : Cond.instanceMethod (gk_M 143).1 ∈ gk_TT := gk_mem 5 3 rfl rfl
set_option maxRecDepth 100000 in
theorem sl_dp_fit : Cond.selects (gk_M 143).1.cls (gk_M 143).1 (gk_M 143).1 ∈ gk_TT := gk_mem 5 4 rfl rfl
set_option maxRecDepth 100000 in
theorem jk_dp_walk : gk_jok (gk_M 144) 4 := ⟨gk_mem 5 23 rfl rfl, gk_mem 1 1 rfl rfl, ⟨by decide +kernel, by decide +kernel, by decide +kernel⟩, by decide +kernel⟩
set_option maxRecDepth 100000 in
theorem im_dp_walk : Cond.instanceMethod (gk_M 144).1 ∈ gk_TT := gk_mem 5 21 rfl rfl
set_option maxRecDepth 100000 in
theorem sl_dp_walk : Cond.selects (gk_M 144).1.cls (gk_M 144).1 (gk_M 144).1 ∈ gk_TT := gk_mem 5 22 rfl rfl
set_option maxRecDepth 100000 in
theorem jk_dp_sums : gk_jok (gk_M 145) 2 := ⟨gk_mem 5 36 rfl rfl, gk_mem 1 1 rfl rfl, ⟨by decide +kernel, by decide +kernel, by decide +kernel⟩, by decide +kernel⟩
set_option maxRecDepth 100000 in
theorem im_dp_sums : Cond.instanceMethod (gk_M 145).1 ∈ gk_TT := gk_mem 5 34 rfl rfl
set_option maxRecDepth 100000 in
theorem sl_dp_sums : Cond.selects (gk_M 145).1.cls (gk_M 145).1 (gk_M 145).1 ∈ gk_TT := gk_mem 5 35 rfl rfl
set_option maxRecDepth 100000 in
theorem jk_dp_buys : gk_jok (gk_M 146) 2 := ⟨gk_mem 5 54 rfl rfl, gk_mem 1 1 rfl rfl, ⟨by decide +kernel, by decide +kernel, by decide +kernel⟩, by decide +kernel⟩
set_option maxRecDepth 100000 in
theorem im_dp_buys : Cond.instanceMethod (gk_M 146).1 ∈ gk_TT := gk_mem 5 52 rfl rfl
set_option maxRecDepth 100000 in
theorem sl_dp_buys : Cond.selects (gk_M 146).1.cls (gk_M 146).1 (gk_M 146).1 ∈ gk_TT := gk_mem 5 53 rfl rfl
set_option maxRecDepth 100000 in
theorem jk_dp_tour : gk_jok (gk_M 147) 2 := ⟨gk_mem 5 63 rfl rfl, gk_mem 1 1 rfl rfl, ⟨by decide +kernel, by decide +kernel, by decide +kernel⟩, by decide +kernel⟩
set_option maxRecDepth 100000 in
theorem im_dp_tour : Cond.instanceMethod (gk_M 147).1 ∈ gk_TT := gk_mem 5 61 rfl rfl
set_option maxRecDepth 100000 in
theorem sl_dp_tour : Cond.selects (gk_M 147).1.cls (gk_M 147).1 (gk_M 147).1 ∈ gk_TT := gk_mem 5 62 rfl rfl
set_option maxRecDepth 100000 in
theorem jk_dp_vouched : gk_jok (gk_M 148) 1 := ⟨gk_mem 5 87 rfl rfl, gk_mem 1 1 rfl rfl, ⟨by decide +kernel, by decide +kernel, by decide +kernel⟩, by decide +kernel⟩
set_option maxRecDepth 100000 in
theorem im_dp_vouched : Cond.instanceMethod (gk_M 148).1 ∈ gk_TT := gk_mem 5 85 rfl rfl
set_option maxRecDepth 100000 in
theorem sl_dp_vouched : Cond.selects (gk_M 148).1.cls (gk_M 148).1 (gk_M 148).1 ∈ gk_TT := gk_mem 5 86 rfl rfl
set_option maxRecDepth 100000 in
theorem jk_dp_lie : gk_jok (gk_M 149) 3 := ⟨gk_mem 5 95 rfl rfl, gk_mem 1 1 rfl rfl, ⟨by decide +kernel, by decide +kernel, by decide +kernel⟩, by decide +kernel⟩
set_option maxRecDepth 100000 in
theorem im_dp_lie : Cond.instanceMethod (gk_M 149).1 ∈ gk_TT := gk_mem 5 93 rfl rfl
set_option maxRecDepth 100000 in
theorem sl_dp_lie : Cond.selects (gk_M 149).1.cls (gk_M 149).1 (gk_M 149).1 ∈ gk_TT := gk_mem 5 94 rfl rfl
set_option maxRecDepth 100000 in
theorem jk_dp_feet : gk_jok (gk_M 150) 1 := ⟨gk_mem 5 105 rfl rfl, gk_mem 1 1 rfl rfl, ⟨by decide +kernel, by decide +kernel, by decide +kernel⟩, by decide +kernel⟩
set_option maxRecDepth 100000 in
theorem im_dp_feet : Cond.instanceMethod (gk_M 150).1 ∈ gk_TT := gk_mem 5 103 rfl rfl
set_option maxRecDepth 100000 in
theorem sl_dp_feet : Cond.selects (gk_M 150).1.cls (gk_M 150).1 (gk_M 150).1 ∈ gk_TT := gk_mem 5 104 rfl rfl
set_option maxRecDepth 100000 in
theorem jk_dp_game : gk_jok (gk_M 151) 1 := ⟨gk_mem 5 115 rfl rfl, gk_mem 1 1 rfl rfl, ⟨by decide +kernel, by decide +kernel, by decide +kernel⟩, by decide +kernel⟩
set_option maxRecDepth 100000 in
theorem im_dp_game : Cond.instanceMethod (gk_M 151).1 ∈ gk_TT := gk_mem 5 113 rfl rfl
set_option maxRecDepth 100000 in
theorem sl_dp_game : Cond.selects (gk_M 151).1.cls (gk_M 151).1 (gk_M 151).1 ∈ gk_TT := gk_mem 5 114 rfl rfl
set_option maxRecDepth 100000 in
theorem jk_dp_undo : gk_jok (gk_M 152) 0 := ⟨gk_mem 5 126 rfl rfl, gk_mem 1 1 rfl rfl, ⟨by decide +kernel, by decide +kernel, by decide +kernel⟩, by decide +kernel⟩
set_option maxRecDepth 100000 in
theorem im_dp_undo : Cond.instanceMethod (gk_M 152).1 ∈ gk_TT := gk_mem 5 124 rfl rfl
set_option maxRecDepth 100000 in
theorem sl_dp_undo : Cond.selects (gk_M 152).1.cls (gk_M 152).1 (gk_M 152).1 ∈ gk_TT := gk_mem 5 125 rfl rfl
set_option maxRecDepth 100000 in
theorem jk_dp_image : gk_jok (gk_M 153) 1 := ⟨gk_mem 5 134 rfl rfl, gk_mem 1 1 rfl rfl, ⟨by decide +kernel, by decide +kernel, by decide +kernel⟩, by decide +kernel⟩
set_option maxRecDepth 100000 in
theorem im_dp_image : Cond.instanceMethod (gk_M 153).1 ∈ gk_TT := gk_mem 5 132 rfl rfl
set_option maxRecDepth 100000 in
theorem sl_dp_image : Cond.selects (gk_M 153).1.cls (gk_M 153).1 (gk_M 153).1 ∈ gk_TT := gk_mem 5 133 rfl rfl
set_option maxRecDepth 100000 in
theorem jk_dp_look : gk_jok (gk_M 154) 1 := ⟨gk_mem 5 144 rfl rfl, gk_mem 1 1 rfl rfl, ⟨by decide +kernel, by decide +kernel, by decide +kernel⟩, by decide +kernel⟩
set_option maxRecDepth 100000 in
theorem im_dp_look : Cond.instanceMethod (gk_M 154).1 ∈ gk_TT := gk_mem 5 142 rfl rfl
set_option maxRecDepth 100000 in
theorem sl_dp_look : Cond.selects (gk_M 154).1.cls (gk_M 154).1 (gk_M 154).1 ∈ gk_TT := gk_mem 5 143 rfl rfl
set_option maxRecDepth 100000 in
theorem jk_dp_isWithin : gk_jok (gk_M 155) 3 := ⟨gk_mem 2 133 rfl rfl, gk_mem 1 1 rfl rfl, ⟨by decide +kernel, by decide +kernel, by decide +kernel⟩, by decide +kernel⟩
set_option maxRecDepth 100000 in
theorem st_dp_isWithin : Cond.static (gk_M 155).1 ∈ gk_TT := gk_mem 2 132 rfl rfl
set_option maxRecDepth 100000 in
theorem jk_dp_isCell : gk_jok (gk_M 156) 1 := ⟨gk_mem 2 235 rfl rfl, gk_mem 1 1 rfl rfl, ⟨by decide +kernel, by decide +kernel, by decide +kernel⟩, by decide +kernel⟩
set_option maxRecDepth 100000 in
theorem st_dp_isCell : Cond.static (gk_M 156).1 ∈ gk_TT := gk_mem 2 234 rfl rfl
set_option maxRecDepth 100000 in
theorem jk_dp_isRoom : gk_jok (gk_M 157) 1 := ⟨gk_mem 2 166 rfl rfl, gk_mem 1 1 rfl rfl, ⟨by decide +kernel, by decide +kernel, by decide +kernel⟩, by decide +kernel⟩
set_option maxRecDepth 100000 in
theorem st_dp_isRoom : Cond.static (gk_M 157).1 ∈ gk_TT := gk_mem 2 165 rfl rfl
set_option maxRecDepth 100000 in
theorem jk_dp_priceOf : gk_jok (gk_M 158) 1 := ⟨gk_mem 5 58 rfl rfl, gk_mem 1 1 rfl rfl, ⟨by decide +kernel, by decide +kernel, by decide +kernel⟩, by decide +kernel⟩
set_option maxRecDepth 100000 in
theorem im_dp_priceOf : Cond.instanceMethod (gk_M 158).1 ∈ gk_TT := gk_mem 5 57 rfl rfl
set_option maxRecDepth 100000 in
theorem sl_dp_priceOf : Cond.selects (gk_M 158).1.cls (gk_M 158).1 (gk_M 158).1 ∈ gk_TT := gk_mem 0 36 rfl rfl
set_option maxRecDepth 100000 in
theorem jk_dp_vouchersOfAll : gk_jok (gk_M 159) 1 := ⟨gk_mem 5 91 rfl rfl, gk_mem 1 1 rfl rfl, ⟨by decide +kernel, by decide +kernel, by decide +kernel⟩, by decide +kernel⟩
set_option maxRecDepth 100000 in
theorem im_dp_vouchersOfAll : Cond.instanceMethod (gk_M 159).1 ∈ gk_TT := gk_mem 5 90 rfl rfl
set_option maxRecDepth 100000 in
theorem sl_dp_vouchersOfAll : Cond.selects (gk_M 159).1.cls (gk_M 159).1 (gk_M 159).1 ∈ gk_TT := gk_mem 0 39 rfl rfl
set_option maxRecDepth 100000 in
theorem jk_dp_heapOf : gk_jok (gk_M 160) 1 := ⟨gk_mem 5 119 rfl rfl, gk_mem 1 1 rfl rfl, ⟨by decide +kernel, by decide +kernel, by decide +kernel⟩, by decide +kernel⟩
set_option maxRecDepth 100000 in
theorem im_dp_heapOf : Cond.instanceMethod (gk_M 160).1 ∈ gk_TT := gk_mem 5 118 rfl rfl
set_option maxRecDepth 100000 in
theorem sl_dp_heapOf : Cond.selects (gk_M 160).1.cls (gk_M 160).1 (gk_M 160).1 ∈ gk_TT := gk_mem 0 40 rfl rfl
set_option maxRecDepth 100000 in
theorem jk_dp_winningTake : gk_jok (gk_M 161) 2 := ⟨gk_mem 5 122 rfl rfl, gk_mem 1 1 rfl rfl, ⟨by decide +kernel, by decide +kernel, by decide +kernel⟩, by decide +kernel⟩
set_option maxRecDepth 100000 in
theorem st_dp_winningTake : Cond.static (gk_M 161).1 ∈ gk_TT := gk_mem 5 121 rfl rfl
set_option maxRecDepth 100000 in
theorem jk_mo_init : gk_jok (gk_M 162) 0 := ⟨gk_mem 5 149 rfl rfl, gk_mem 1 12 rfl rfl, ⟨by decide +kernel, by decide +kernel, by decide +kernel⟩, by decide +kernel⟩
set_option maxRecDepth 100000 in
theorem im_mo_init : Cond.instanceMethod (gk_M 162).1 ∈ gk_TT := gk_mem 5 148 rfl rfl
set_option maxRecDepth 100000 in
theorem jk_mo_isIn : gk_jok (gk_M 163) 3 := ⟨gk_mem 6 92 rfl rfl, gk_mem 1 12 rfl rfl, ⟨by decide +kernel, by decide +kernel, by decide +kernel⟩, by decide +kernel⟩
set_option maxRecDepth 100000 in
theorem im_mo_isIn : Cond.instanceMethod (gk_M 163).1 ∈ gk_TT := gk_mem 6 91 rfl rfl
set_option maxRecDepth 100000 in
theorem sl_mo_isIn : Cond.selects (gk_M 163).1.cls (gk_M 163).1 (gk_M 163).1 ∈ gk_TT := gk_mem 0 41 rfl rfl
set_option maxRecDepth 100000 in
theorem jk_mo_held : gk_jok (gk_M 164) 3 := ⟨gk_mem 7 109 rfl rfl, gk_mem 1 12 rfl rfl, ⟨by decide +kernel, by decide +kernel, by decide +kernel⟩, by decide +kernel⟩
set_option maxRecDepth 100000 in
theorem im_mo_held : Cond.instanceMethod (gk_M 164).1 ∈ gk_TT := gk_mem 7 108 rfl rfl
set_option maxRecDepth 100000 in
theorem sl_mo_held : Cond.selects (gk_M 164).1.cls (gk_M 164).1 (gk_M 164).1 ∈ gk_TT := gk_mem 0 98 rfl rfl
set_option maxRecDepth 100000 in
theorem jk_mo_greater : gk_jok (gk_M 165) 2 := ⟨gk_mem 8 71 rfl rfl, gk_mem 1 12 rfl rfl, ⟨by decide +kernel, by decide +kernel, by decide +kernel⟩, by decide +kernel⟩
set_option maxRecDepth 100000 in
theorem im_mo_greater : Cond.instanceMethod (gk_M 165).1 ∈ gk_TT := gk_mem 8 70 rfl rfl
set_option maxRecDepth 100000 in
theorem sl_mo_greater : Cond.selects (gk_M 165).1.cls (gk_M 165).1 (gk_M 165).1 ∈ gk_TT := gk_mem 0 138 rfl rfl
set_option maxRecDepth 100000 in
theorem jk_mo_lesser : gk_jok (gk_M 166) 2 := ⟨gk_mem 7 137 rfl rfl, gk_mem 1 12 rfl rfl, ⟨by decide +kernel, by decide +kernel, by decide +kernel⟩, by decide +kernel⟩
set_option maxRecDepth 100000 in
theorem im_mo_lesser : Cond.instanceMethod (gk_M 166).1 ∈ gk_TT := gk_mem 7 136 rfl rfl
set_option maxRecDepth 100000 in
theorem sl_mo_lesser : Cond.selects (gk_M 166).1.cls (gk_M 166).1 (gk_M 166).1 ∈ gk_TT := gk_mem 0 105 rfl rfl
set_option maxRecDepth 100000 in
theorem jk_mo_apart : gk_jok (gk_M 167) 2 := ⟨gk_mem 7 223 rfl rfl, gk_mem 1 12 rfl rfl, ⟨by decide +kernel, by decide +kernel, by decide +kernel⟩, by decide +kernel⟩
set_option maxRecDepth 100000 in
theorem im_mo_apart : Cond.instanceMethod (gk_M 167).1 ∈ gk_TT := gk_mem 7 222 rfl rfl
set_option maxRecDepth 100000 in
theorem sl_mo_apart : Cond.selects (gk_M 167).1.cls (gk_M 167).1 (gk_M 167).1 ∈ gk_TT := gk_mem 0 119 rfl rfl
set_option maxRecDepth 100000 in
theorem jk_mo_onesOf : gk_jok (gk_M 168) 1 := ⟨gk_mem 7 65 rfl rfl, gk_mem 1 12 rfl rfl, ⟨by decide +kernel, by decide +kernel, by decide +kernel⟩, by decide +kernel⟩
set_option maxRecDepth 100000 in
theorem im_mo_onesOf : Cond.instanceMethod (gk_M 168).1 ∈ gk_TT := gk_mem 7 64 rfl rfl
set_option maxRecDepth 100000 in
theorem sl_mo_onesOf : Cond.selects (gk_M 168).1.cls (gk_M 168).1 (gk_M 168).1 ∈ gk_TT := gk_mem 0 87 rfl rfl
set_option maxRecDepth 100000 in
theorem jk_mo_has : gk_jok (gk_M 169) 2 := ⟨gk_mem 7 77 rfl rfl, gk_mem 1 12 rfl rfl, ⟨by decide +kernel, by decide +kernel, by decide +kernel⟩, by decide +kernel⟩
set_option maxRecDepth 100000 in
theorem im_mo_has : Cond.instanceMethod (gk_M 169).1 ∈ gk_TT := gk_mem 7 76 rfl rfl
set_option maxRecDepth 100000 in
theorem sl_mo_has : Cond.selects (gk_M 169).1.cls (gk_M 169).1 (gk_M 169).1 ∈ gk_TT := gk_mem 0 90 rfl rfl
set_option maxRecDepth 100000 in
theorem jk_mo_keepsAhead : gk_jok (gk_M 170) 0 := ⟨gk_mem 7 113 rfl rfl, gk_mem 1 12 rfl rfl, ⟨by decide +kernel, by decide +kernel, by decide +kernel⟩, by decide +kernel⟩
set_option maxRecDepth 100000 in
theorem im_mo_keepsAhead : Cond.instanceMethod (gk_M 170).1 ∈ gk_TT := gk_mem 7 112 rfl rfl
set_option maxRecDepth 100000 in
theorem sl_mo_keepsAhead : Cond.selects (gk_M 170).1.cls (gk_M 170).1 (gk_M 170).1 ∈ gk_TT := gk_mem 0 99 rfl rfl
set_option maxRecDepth 100000 in
theorem jk_mo_undo : gk_jok (gk_M 171) 0 := ⟨gk_mem 6 80 rfl rfl, gk_mem 1 12 rfl rfl, ⟨by decide +kernel, by decide +kernel, by decide +kernel⟩, by decide +kernel⟩
set_option maxRecDepth 100000 in
theorem im_mo_undo : Cond.instanceMethod (gk_M 171).1 ∈ gk_TT := gk_mem 6 78 rfl rfl
set_option maxRecDepth 100000 in
theorem sl_mo_undo : Cond.selects (gk_M 171).1.cls (gk_M 171).1 (gk_M 171).1 ∈ gk_TT := gk_mem 6 79 rfl rfl
set_option maxRecDepth 100000 in
theorem jk_mo_thinks : gk_jok (gk_M 172) 0 := ⟨gk_mem 7 199 rfl rfl, gk_mem 1 12 rfl rfl, ⟨by decide +kernel, by decide +kernel, by decide +kernel⟩, by decide +kernel⟩
set_option maxRecDepth 100000 in
theorem im_mo_thinks : Cond.instanceMethod (gk_M 172).1 ∈ gk_TT := gk_mem 7 198 rfl rfl
set_option maxRecDepth 100000 in
theorem sl_mo_thinks : Cond.selects (gk_M 172).1.cls (gk_M 172).1 (gk_M 172).1 ∈ gk_TT := gk_mem 0 114 rfl rfl
set_option maxRecDepth 100000 in
theorem jk_mo_endsThought : gk_jok (gk_M 173) 0 := ⟨gk_mem 7 203 rfl rfl, gk_mem 1 12 rfl rfl, ⟨by decide +kernel, by decide +kernel, by decide +kernel⟩, by decide +kernel⟩
set_option maxRecDepth 100000 in
theorem im_mo_endsThought : Cond.instanceMethod (gk_M 173).1 ∈ gk_TT := gk_mem 7 202 rfl rfl
set_option maxRecDepth 100000 in
theorem sl_mo_endsThought : Cond.selects (gk_M 173).1.cls (gk_M 173).1 (gk_M 173).1 ∈ gk_TT := gk_mem 0 115 rfl rfl
set_option maxRecDepth 100000 in
theorem jk_mo_state : gk_jok (gk_M 174) 1 := ⟨gk_mem 6 84 rfl rfl, gk_mem 1 12 rfl rfl, ⟨by decide +kernel, by decide +kernel, by decide +kernel⟩, by decide +kernel⟩
set_option maxRecDepth 100000 in
theorem im_mo_state : Cond.instanceMethod (gk_M 174).1 ∈ gk_TT := gk_mem 6 82 rfl rfl
set_option maxRecDepth 100000 in
theorem sl_mo_state : Cond.selects (gk_M 174).1.cls (gk_M 174).1 (gk_M 174).1 ∈ gk_TT := gk_mem 6 83 rfl rfl
set_option maxRecDepth 100000 in
theorem jk_mo_draw : gk_jok (gk_M 175) 1 := ⟨gk_mem 7 169 rfl rfl, gk_mem 1 12 rfl rfl, ⟨by decide +kernel, by decide +kernel, by decide +kernel⟩, by decide +kernel⟩
set_option maxRecDepth 100000 in
theorem im_mo_draw : Cond.instanceMethod (gk_M 175).1 ∈ gk_TT := gk_mem 7 168 rfl rfl
set_option maxRecDepth 100000 in
theorem sl_mo_draw : Cond.selects (gk_M 175).1.cls (gk_M 175).1 (gk_M 175).1 ∈ gk_TT := gk_mem 0 112 rfl rfl
set_option maxRecDepth 100000 in
theorem jk_mo_isPlace : gk_jok (gk_M 176) 1 := ⟨gk_mem 6 104 rfl rfl, gk_mem 1 12 rfl rfl, ⟨by decide +kernel, by decide +kernel, by decide +kernel⟩, by decide +kernel⟩
set_option maxRecDepth 100000 in
theorem im_mo_isPlace : Cond.instanceMethod (gk_M 176).1 ∈ gk_TT := gk_mem 6 103 rfl rfl
set_option maxRecDepth 100000 in
theorem sl_mo_isPlace : Cond.selects (gk_M 176).1.cls (gk_M 176).1 (gk_M 176).1 ∈ gk_TT := gk_mem 0 43 rfl rfl
set_option maxRecDepth 100000 in
theorem jk_mo_isCell : gk_jok (gk_M 177) 1 := ⟨gk_mem 7 45 rfl rfl, gk_mem 1 12 rfl rfl, ⟨by decide +kernel, by decide +kernel, by decide +kernel⟩, by decide +kernel⟩
set_option maxRecDepth 100000 in
theorem im_mo_isCell : Cond.instanceMethod (gk_M 177).1 ∈ gk_TT := gk_mem 7 44 rfl rfl
set_option maxRecDepth 100000 in
theorem sl_mo_isCell : Cond.selects (gk_M 177).1.cls (gk_M 177).1 (gk_M 177).1 ∈ gk_TT := gk_mem 0 82 rfl rfl
set_option maxRecDepth 100000 in
theorem jk_mo_rowAt : gk_jok (gk_M 178) 2 := ⟨gk_mem 6 96 rfl rfl, gk_mem 1 12 rfl rfl, ⟨by decide +kernel, by decide +kernel, by decide +kernel⟩, by decide +kernel⟩
set_option maxRecDepth 100000 in
theorem im_mo_rowAt : Cond.instanceMethod (gk_M 178).1 ∈ gk_TT := gk_mem 6 95 rfl rfl
set_option maxRecDepth 100000 in
theorem sl_mo_rowAt : Cond.selects (gk_M 178).1.cls (gk_M 178).1 (gk_M 178).1 ∈ gk_TT := gk_mem 0 42 rfl rfl
set_option maxRecDepth 100000 in
theorem jk_mo_isDry : gk_jok (gk_M 179) 3 := ⟨gk_mem 7 85 rfl rfl, gk_mem 1 12 rfl rfl, ⟨by decide +kernel, by decide +kernel, by decide +kernel⟩, by decide +kernel⟩
set_option maxRecDepth 100000 in
theorem im_mo_isDry : Cond.instanceMethod (gk_M 179).1 ∈ gk_TT := gk_mem 7 84 rfl rfl
set_option maxRecDepth 100000 in
theorem sl_mo_isDry : Cond.selects (gk_M 179).1.cls (gk_M 179).1 (gk_M 179).1 ∈ gk_TT := gk_mem 0 92 rfl rfl
set_option maxRecDepth 100000 in
theorem jk_mo_isDryCell : gk_jok (gk_M 180) 2 := ⟨gk_mem 7 73 rfl rfl, gk_mem 1 12 rfl rfl, ⟨by decide +kernel, by decide +kernel, by decide +kernel⟩, by decide +kernel⟩
set_option maxRecDepth 100000 in
theorem im_mo_isDryCell : Cond.instanceMethod (gk_M 180).1 ∈ gk_TT := gk_mem 7 72 rfl rfl
set_option maxRecDepth 100000 in
theorem sl_mo_isDryCell : Cond.selects (gk_M 180).1.cls (gk_M 180).1 (gk_M 180).1 ∈ gk_TT := gk_mem 0 89 rfl rfl
set_option maxRecDepth 100000 in
theorem jk_mo_wetBeside : gk_jok (gk_M 181) 2 := ⟨gk_mem 7 81 rfl rfl, gk_mem 1 12 rfl rfl, ⟨by decide +kernel, by decide +kernel, by decide +kernel⟩, by decide +kernel⟩
set_option maxRecDepth 100000 in
theorem im_mo_wetBeside : Cond.instanceMethod (gk_M 181).1 ∈ gk_TT := gk_mem 7 80 rfl rfl
set_option maxRecDepth 100000 in
theorem sl_mo_wetBeside : Cond.selects (gk_M 181).1.cls (gk_M 181).1 (gk_M 181).1 ∈ gk_TT := gk_mem 0 91 rfl rfl
set_option maxRecDepth 100000 in
theorem jk_mo_dryOf : gk_jok (gk_M 182) 1 := ⟨gk_mem 7 61 rfl rfl, gk_mem 1 12 rfl rfl, ⟨by decide +kernel, by decide +kernel, by decide +kernel⟩, by decide +kernel⟩
set_option maxRecDepth 100000 in
theorem im_mo_dryOf : Cond.instanceMethod (gk_M 182).1 ∈ gk_TT := gk_mem 7 60 rfl rfl
set_option maxRecDepth 100000 in
theorem sl_mo_dryOf : Cond.selects (gk_M 182).1.cls (gk_M 182).1 (gk_M 182).1 ∈ gk_TT := gk_mem 0 86 rfl rfl
set_option maxRecDepth 100000 in
theorem jk_mo_edgesOf : gk_jok (gk_M 183) 1 := ⟨gk_mem 7 69 rfl rfl, gk_mem 1 12 rfl rfl, ⟨by decide +kernel, by decide +kernel, by decide +kernel⟩, by decide +kernel⟩
set_option maxRecDepth 100000 in
theorem im_mo_edgesOf : Cond.instanceMethod (gk_M 183).1 ∈ gk_TT := gk_mem 7 68 rfl rfl
set_option maxRecDepth 100000 in
theorem sl_mo_edgesOf : Cond.selects (gk_M 183).1.cls (gk_M 183).1 (gk_M 183).1 ∈ gk_TT := gk_mem 0 88 rfl rfl
set_option maxRecDepth 100000 in
theorem jk_mo_place : gk_jok (gk_M 184) 1 := ⟨gk_mem 6 88 rfl rfl, gk_mem 1 12 rfl rfl, ⟨by decide +kernel, by decide +kernel, by decide +kernel⟩, by decide +kernel⟩
set_option maxRecDepth 100000 in
theorem im_mo_place : Cond.instanceMethod (gk_M 184).1 ∈ gk_TT := gk_mem 6 86 rfl rfl
set_option maxRecDepth 100000 in
theorem sl_mo_place : Cond.selects (gk_M 184).1.cls (gk_M 184).1 (gk_M 184).1 ∈ gk_TT := gk_mem 6 87 rfl rfl
set_option maxRecDepth 100000 in
theorem jk_mo_row : gk_jok (gk_M 185) 3 := ⟨gk_mem 6 100 rfl rfl, gk_mem 1 12 rfl rfl, ⟨by decide +kernel, by decide +kernel, by decide +kernel⟩, by decide +kernel⟩
set_option maxRecDepth 100000 in
theorem im_mo_row : Cond.instanceMethod (gk_M 185).1 ∈ gk_TT := gk_mem 6 98 rfl rfl
set_option maxRecDepth 100000 in
theorem sl_mo_row : Cond.selects (gk_M 185).1.cls (gk_M 185).1 (gk_M 185).1 ∈ gk_TT := gk_mem 6 99 rfl rfl
set_option maxRecDepth 100000 in
theorem jk_mo_purse : gk_jok (gk_M 186) 1 := ⟨gk_mem 6 108 rfl rfl, gk_mem 1 12 rfl rfl, ⟨by decide +kernel, by decide +kernel, by decide +kernel⟩, by decide +kernel⟩
set_option maxRecDepth 100000 in
theorem im_mo_purse : Cond.instanceMethod (gk_M 186).1 ∈ gk_TT := gk_mem 6 106 rfl rfl
set_option maxRecDepth 100000 in
theorem sl_mo_purse : Cond.selects (gk_M 186).1.cls (gk_M 186).1 (gk_M 186).1 ∈ gk_TT := gk_mem 6 107 rfl rfl
set_option maxRecDepth 100000 in
theorem jk_mo_types : gk_jok (gk_M 187) 1 := ⟨gk_mem 6 117 rfl rfl, gk_mem 1 12 rfl rfl, ⟨by decide +kernel, by decide +kernel, by decide +kernel⟩, by decide +kernel⟩
set_option maxRecDepth 100000 in
theorem im_mo_types : Cond.instanceMethod (gk_M 187).1 ∈ gk_TT := gk_mem 6 116 rfl rfl
set_option maxRecDepth 100000 in
theorem sl_mo_types : Cond.selects (gk_M 187).1.cls (gk_M 187).1 (gk_M 187).1 ∈ gk_TT := gk_mem 0 44 rfl rfl
set_option maxRecDepth 100000 in
theorem jk_mo_feed : gk_jok (gk_M 188) 5 := ⟨gk_mem 6 113 rfl rfl, gk_mem 1 12 rfl rfl, ⟨by decide +kernel, by decide +kernel, by decide +kernel⟩, by decide +kernel⟩
set_option maxRecDepth 100000 in
theorem im_mo_feed : Cond.instanceMethod (gk_M 188).1 ∈ gk_TT := gk_mem 6 111 rfl rfl
set_option maxRecDepth 100000 in
theorem sl_mo_feed : Cond.selects (gk_M 188).1.cls (gk_M 188).1 (gk_M 188).1 ∈ gk_TT := gk_mem 6 112 rfl rfl
set_option maxRecDepth 100000 in
theorem jk_mo_end : gk_jok (gk_M 189) 1 := ⟨gk_mem 6 121 rfl rfl, gk_mem 1 12 rfl rfl, ⟨by decide +kernel, by decide +kernel, by decide +kernel⟩, by decide +kernel⟩
set_option maxRecDepth 100000 in
theorem im_mo_end : Cond.instanceMethod (gk_M 189).1 ∈ gk_TT := gk_mem 6 119 rfl rfl
set_option maxRecDepth 100000 in
theorem sl_mo_end : Cond.selects (gk_M 189).1.cls (gk_M 189).1 (gk_M 189).1 ∈ gk_TT := gk_mem 6 120 rfl rfl
set_option maxRecDepth 100000 in
theorem jk_mo_raw : gk_jok (gk_M 190) 1 := ⟨gk_mem 6 137 rfl rfl, gk_mem 1 12 rfl rfl, ⟨by decide +kernel, by decide +kernel, by decide +kernel⟩, by decide +kernel⟩
set_option maxRecDepth 100000 in
theorem im_mo_raw : Cond.instanceMethod (gk_M 190).1 ∈ gk_TT := gk_mem 6 136 rfl rfl
set_option maxRecDepth 100000 in
theorem sl_mo_raw : Cond.selects (gk_M 190).1.cls (gk_M 190).1 (gk_M 190).1 ∈ gk_TT := gk_mem 0 47 rfl rfl
set_option maxRecDepth 100000 in
theorem jk_mo_isLetter : gk_jok (gk_M 191) 1 := ⟨gk_mem 6 141 rfl rfl, gk_mem 1 12 rfl rfl, ⟨by decide +kernel, by decide +kernel, by decide +kernel⟩, by decide +kernel⟩
set_option maxRecDepth 100000 in
theorem im_mo_isLetter : Cond.instanceMethod (gk_M 191).1 ∈ gk_TT := gk_mem 6 140 rfl rfl
set_option maxRecDepth 100000 in
theorem sl_mo_isLetter : Cond.selects (gk_M 191).1.cls (gk_M 191).1 (gk_M 191).1 ∈ gk_TT := gk_mem 0 48 rfl rfl
set_option maxRecDepth 100000 in
theorem jk_mo_isDigit : gk_jok (gk_M 192) 1 := ⟨gk_mem 6 149 rfl rfl, gk_mem 1 12 rfl rfl, ⟨by decide +kernel, by decide +kernel, by decide +kernel⟩, by decide +kernel⟩
set_option maxRecDepth 100000 in
theorem im_mo_isDigit : Cond.instanceMethod (gk_M 192).1 ∈ gk_TT := gk_mem 6 148 rfl rfl
set_option maxRecDepth 100000 in
theorem sl_mo_isDigit : Cond.selects (gk_M 192).1.cls (gk_M 192).1 (gk_M 192).1 ∈ gk_TT := gk_mem 0 50 rfl rfl
set_option maxRecDepth 100000 in
theorem jk_mo_isMarkSign : gk_jok (gk_M 193) 1 := ⟨gk_mem 6 153 rfl rfl, gk_mem 1 12 rfl rfl, ⟨by decide +kernel, by decide +kernel, by decide +kernel⟩, by decide +kernel⟩
set_option maxRecDepth 100000 in
theorem im_mo_isMarkSign : Cond.instanceMethod (gk_M 193).1 ∈ gk_TT := gk_mem 6 152 rfl rfl
set_option maxRecDepth 100000 in
theorem sl_mo_isMarkSign : Cond.selects (gk_M 193).1.cls (gk_M 193).1 (gk_M 193).1 ∈ gk_TT := gk_mem 0 51 rfl rfl
set_option maxRecDepth 100000 in
theorem jk_mo_wordAt : gk_jok (gk_M 194) 2 := ⟨gk_mem 6 145 rfl rfl, gk_mem 1 12 rfl rfl, ⟨by decide +kernel, by decide +kernel, by decide +kernel⟩, by decide +kernel⟩
set_option maxRecDepth 100000 in
theorem im_mo_wordAt : Cond.instanceMethod (gk_M 194).1 ∈ gk_TT := gk_mem 6 144 rfl rfl
set_option maxRecDepth 100000 in
theorem sl_mo_wordAt : Cond.selects (gk_M 194).1.cls (gk_M 194).1 (gk_M 194).1 ∈ gk_TT := gk_mem 0 49 rfl rfl
set_option maxRecDepth 100000 in
theorem jk_mo_reads : gk_jok (gk_M 195) 0 := ⟨gk_mem 6 133 rfl rfl, gk_mem 1 12 rfl rfl, ⟨by decide +kernel, by decide +kernel, by decide +kernel⟩, by decide +kernel⟩
set_option maxRecDepth 100000 in
theorem im_mo_reads : Cond.instanceMethod (gk_M 195).1 ∈ gk_TT := gk_mem 6 132 rfl rfl
set_option maxRecDepth 100000 in
theorem sl_mo_reads : Cond.selects (gk_M 195).1.cls (gk_M 195).1 (gk_M 195).1 ∈ gk_TT := gk_mem 0 46 rfl rfl
set_option maxRecDepth 100000 in
theorem jk_mo_errs : gk_jok (gk_M 196) 1 := ⟨gk_mem 6 165 rfl rfl, gk_mem 1 12 rfl rfl, ⟨by decide +kernel, by decide +kernel, by decide +kernel⟩, by decide +kernel⟩
set_option maxRecDepth 100000 in
theorem im_mo_errs : Cond.instanceMethod (gk_M 196).1 ∈ gk_TT := gk_mem 6 164 rfl rfl
set_option maxRecDepth 100000 in
theorem sl_mo_errs : Cond.selects (gk_M 196).1.cls (gk_M 196).1 (gk_M 196).1 ∈ gk_TT := gk_mem 0 54 rfl rfl
set_option maxRecDepth 100000 in
theorem jk_mo_isWord : gk_jok (gk_M 197) 1 := ⟨gk_mem 6 161 rfl rfl, gk_mem 1 12 rfl rfl, ⟨by decide +kernel, by decide +kernel, by decide +kernel⟩, by decide +kernel⟩
set_option maxRecDepth 100000 in
theorem im_mo_isWord : Cond.instanceMethod (gk_M 197).1 ∈ gk_TT := gk_mem 6 160 rfl rfl
set_option maxRecDepth 100000 in
theorem sl_mo_isWord : Cond.selects (gk_M 197).1.cls (gk_M 197).1 (gk_M 197).1 ∈ gk_TT := gk_mem 0 53 rfl rfl
set_option maxRecDepth 100000 in
theorem jk_mo_isSign : gk_jok (gk_M 198) 1 := ⟨gk_mem 6 193 rfl rfl, gk_mem 1 12 rfl rfl, ⟨by decide +kernel, by decide +kernel, by decide +kernel⟩, by decide +kernel⟩
set_option maxRecDepth 100000 in
theorem im_mo_isSign : Cond.instanceMethod (gk_M 198).1 ∈ gk_TT := gk_mem 6 192 rfl rfl
set_option maxRecDepth 100000 in
theorem sl_mo_isSign : Cond.selects (gk_M 198).1.cls (gk_M 198).1 (gk_M 198).1 ∈ gk_TT := gk_mem 0 61 rfl rfl
set_option maxRecDepth 100000 in
theorem jk_mo_emits : gk_jok (gk_M 199) 2 := ⟨gk_mem 7 5 rfl rfl, gk_mem 1 12 rfl rfl, ⟨by decide +kernel, by decide +kernel, by decide +kernel⟩, by decide +kernel⟩
set_option maxRecDepth 100000 in
theorem im_mo_emits : Cond.instanceMethod (gk_M 199).1 ∈ gk_TT := gk_mem 7 4 rfl rfl
set_option maxRecDepth 100000 in
theorem sl_mo_emits : Cond.selects (gk_M 199).1.cls (gk_M 199).1 (gk_M 199).1 ∈ gk_TT := gk_mem 0 74 rfl rfl
set_option maxRecDepth 100000 in
theorem jk_mo_canAsk : gk_jok (gk_M 200) 1 := ⟨gk_mem 7 1 rfl rfl, gk_mem 1 12 rfl rfl, ⟨by decide +kernel, by decide +kernel, by decide +kernel⟩, by decide +kernel⟩
set_option maxRecDepth 100000 in
theorem im_mo_canAsk : Cond.instanceMethod (gk_M 200).1 ∈ gk_TT := gk_mem 7 0 rfl rfl
set_option maxRecDepth 100000 in
theorem sl_mo_canAsk : Cond.selects (gk_M 200).1.cls (gk_M 200).1 (gk_M 200).1 ∈ gk_TT := gk_mem 0 73 rfl rfl
set_option maxRecDepth 100000 in
theorem jk_mo_readUnit : gk_jok (gk_M 201) 0 := ⟨gk_mem 6 237 rfl rfl, gk_mem 1 12 rfl rfl, ⟨by decide +kernel, by decide +kernel, by decide +kernel⟩, by decide +kernel⟩
set_option maxRecDepth 100000 in
theorem im_mo_readUnit : Cond.instanceMethod (gk_M 201).1 ∈ gk_TT := gk_mem 6 236 rfl rfl
set_option maxRecDepth 100000 in
theorem sl_mo_readUnit : Cond.selects (gk_M 201).1.cls (gk_M 201).1 (gk_M 201).1 ∈ gk_TT := gk_mem 0 72 rfl rfl
set_option maxRecDepth 100000 in
theorem jk_mo_readProduct : gk_jok (gk_M 202) 0 := ⟨gk_mem 6 233 rfl rfl, gk_mem 1 12 rfl rfl, ⟨by decide +kernel, by decide +kernel, by decide +kernel⟩, by decide +kernel⟩
set_option maxRecDepth 100000 in
theorem im_mo_readProduct : Cond.instanceMethod (gk_M 202).1 ∈ gk_TT := gk_mem 6 232 rfl rfl
set_option maxRecDepth 100000 in
theorem sl_mo_readProduct : Cond.selects (gk_M 202).1.cls (gk_M 202).1 (gk_M 202).1 ∈ gk_TT := gk_mem 0 71 rfl rfl
set_option maxRecDepth 100000 in
theorem jk_mo_readSum : gk_jok (gk_M 203) 0 := ⟨gk_mem 6 229 rfl rfl, gk_mem 1 12 rfl rfl, ⟨by decide +kernel, by decide +kernel, by decide +kernel⟩, by decide +kernel⟩
set_option maxRecDepth 100000 in
theorem im_mo_readSum : Cond.instanceMethod (gk_M 203).1 ∈ gk_TT := gk_mem 6 228 rfl rfl
set_option maxRecDepth 100000 in
theorem sl_mo_readSum : Cond.selects (gk_M 203).1.cls (gk_M 203).1 (gk_M 203).1 ∈ gk_TT := gk_mem 0 70 rfl rfl
set_option maxRecDepth 100000 in
theorem jk_mo_readCompared : gk_jok (gk_M 204) 0 := ⟨gk_mem 7 17 rfl rfl, gk_mem 1 12 rfl rfl, ⟨by decide +kernel, by decide +kernel, by decide +kernel⟩, by decide +kernel⟩
set_option maxRecDepth 100000 in
theorem im_mo_readCompared : Cond.instanceMethod (gk_M 204).1 ∈ gk_TT := gk_mem 7 16 rfl rfl
set_option maxRecDepth 100000 in
theorem sl_mo_readCompared : Cond.selects (gk_M 204).1.cls (gk_M 204).1 (gk_M 204).1 ∈ gk_TT := gk_mem 0 77 rfl rfl
set_option maxRecDepth 100000 in
theorem jk_mo_waits : gk_jok (gk_M 205) 1 := ⟨gk_mem 7 13 rfl rfl, gk_mem 1 12 rfl rfl, ⟨by decide +kernel, by decide +kernel, by decide +kernel⟩, by decide +kernel⟩
set_option maxRecDepth 100000 in
theorem im_mo_waits : Cond.instanceMethod (gk_M 205).1 ∈ gk_TT := gk_mem 7 12 rfl rfl
set_option maxRecDepth 100000 in
theorem sl_mo_waits : Cond.selects (gk_M 205).1.cls (gk_M 205).1 (gk_M 205).1 ∈ gk_TT := gk_mem 0 76 rfl rfl
set_option maxRecDepth 100000 in
theorem jk_mo_settles : gk_jok (gk_M 206) 1 := ⟨gk_mem 7 21 rfl rfl, gk_mem 1 12 rfl rfl, ⟨by decide +kernel, by decide +kernel, by decide +kernel⟩, by decide +kernel⟩
set_option maxRecDepth 100000 in
theorem im_mo_settles : Cond.instanceMethod (gk_M 206).1 ∈ gk_TT := gk_mem 7 20 rfl rfl
set_option maxRecDepth 100000 in
theorem sl_mo_settles : Cond.selects (gk_M 206).1.cls (gk_M 206).1 (gk_M 206).1 ∈ gk_TT := gk_mem 0 78 rfl rfl
set_option maxRecDepth 100000 in
theorem jk_mo_readAny : gk_jok (gk_M 207) 0 := ⟨gk_mem 7 9 rfl rfl, gk_mem 1 12 rfl rfl, ⟨by decide +kernel, by decide +kernel, by decide +kernel⟩, by decide +kernel⟩
set_option maxRecDepth 100000 in
theorem im_mo_readAny : Cond.instanceMethod (gk_M 207).1 ∈ gk_TT := gk_mem 7 8 rfl rfl
set_option maxRecDepth 100000 in
theorem sl_mo_readAny : Cond.selects (gk_M 207).1.cls (gk_M 207).1 (gk_M 207).1 ∈ gk_TT := gk_mem 0 75 rfl rfl
set_option maxRecDepth 100000 in
theorem jk_mo_isLineWord : gk_jok (gk_M 208) 0 := ⟨gk_mem 6 225 rfl rfl, gk_mem 1 12 rfl rfl, ⟨by decide +kernel, by decide +kernel, by decide +kernel⟩, by decide +kernel⟩
set_option maxRecDepth 100000 in
theorem im_mo_isLineWord : Cond.instanceMethod (gk_M 208).1 ∈ gk_TT := gk_mem 6 224 rfl rfl
set_option maxRecDepth 100000 in
theorem sl_mo_isLineWord : Cond.selects (gk_M 208).1.cls (gk_M 208).1 (gk_M 208).1 ∈ gk_TT := gk_mem 0 69 rfl rfl
set_option maxRecDepth 100000 in
theorem jk_mo_readLaw : gk_jok (gk_M 209) 0 := ⟨gk_mem 6 221 rfl rfl, gk_mem 1 12 rfl rfl, ⟨by decide +kernel, by decide +kernel, by decide +kernel⟩, by decide +kernel⟩
set_option maxRecDepth 100000 in
theorem im_mo_readLaw : Cond.instanceMethod (gk_M 209).1 ∈ gk_TT := gk_mem 6 220 rfl rfl
set_option maxRecDepth 100000 in
theorem sl_mo_readLaw : Cond.selects (gk_M 209).1.cls (gk_M 209).1 (gk_M 209).1 ∈ gk_TT := gk_mem 0 68 rfl rfl
set_option maxRecDepth 100000 in
theorem jk_mo_takesLaw : gk_jok (gk_M 210) 1 := ⟨gk_mem 7 25 rfl rfl, gk_mem 1 12 rfl rfl, ⟨by decide +kernel, by decide +kernel, by decide +kernel⟩, by decide +kernel⟩
set_option maxRecDepth 100000 in
theorem im_mo_takesLaw : Cond.instanceMethod (gk_M 210).1 ∈ gk_TT := gk_mem 7 24 rfl rfl
set_option maxRecDepth 100000 in
theorem sl_mo_takesLaw : Cond.selects (gk_M 210).1.cls (gk_M 210).1 (gk_M 210).1 ∈ gk_TT := gk_mem 0 79 rfl rfl
set_option maxRecDepth 100000 in
theorem jk_mo_readNumber : gk_jok (gk_M 211) 2 := ⟨gk_mem 6 177 rfl rfl, gk_mem 1 12 rfl rfl, ⟨by decide +kernel, by decide +kernel, by decide +kernel⟩, by decide +kernel⟩
set_option maxRecDepth 100000 in
theorem im_mo_readNumber : Cond.instanceMethod (gk_M 211).1 ∈ gk_TT := gk_mem 6 176 rfl rfl
set_option maxRecDepth 100000 in
theorem sl_mo_readNumber : Cond.selects (gk_M 211).1.cls (gk_M 211).1 (gk_M 211).1 ∈ gk_TT := gk_mem 0 57 rfl rfl
set_option maxRecDepth 100000 in
theorem jk_mo_readMark : gk_jok (gk_M 212) 1 := ⟨gk_mem 6 189 rfl rfl, gk_mem 1 12 rfl rfl, ⟨by decide +kernel, by decide +kernel, by decide +kernel⟩, by decide +kernel⟩
set_option maxRecDepth 100000 in
theorem im_mo_readMark : Cond.instanceMethod (gk_M 212).1 ∈ gk_TT := gk_mem 6 188 rfl rfl
set_option maxRecDepth 100000 in
theorem sl_mo_readMark : Cond.selects (gk_M 212).1.cls (gk_M 212).1 (gk_M 212).1 ∈ gk_TT := gk_mem 0 60 rfl rfl
set_option maxRecDepth 100000 in
theorem jk_mo_readTold : gk_jok (gk_M 213) 3 := ⟨gk_mem 6 173 rfl rfl, gk_mem 1 12 rfl rfl, ⟨by decide +kernel, by decide +kernel, by decide +kernel⟩, by decide +kernel⟩
set_option maxRecDepth 100000 in
theorem im_mo_readTold : Cond.instanceMethod (gk_M 213).1 ∈ gk_TT := gk_mem 6 172 rfl rfl
set_option maxRecDepth 100000 in
theorem sl_mo_readTold : Cond.selects (gk_M 213).1.cls (gk_M 213).1 (gk_M 213).1 ∈ gk_TT := gk_mem 0 56 rfl rfl
set_option maxRecDepth 100000 in
theorem jk_mo_readOther : gk_jok (gk_M 214) 3 := ⟨gk_mem 6 181 rfl rfl, gk_mem 1 12 rfl rfl, ⟨by decide +kernel, by decide +kernel, by decide +kernel⟩, by decide +kernel⟩
set_option maxRecDepth 100000 in
theorem im_mo_readOther : Cond.instanceMethod (gk_M 214).1 ∈ gk_TT := gk_mem 6 180 rfl rfl
set_option maxRecDepth 100000 in
theorem sl_mo_readOther : Cond.selects (gk_M 214).1.cls (gk_M 214).1 (gk_M 214).1 ∈ gk_TT := gk_mem 0 58 rfl rfl
set_option maxRecDepth 100000 in
theorem jk_mo_takesPassage : gk_jok (gk_M 215) 2 := ⟨gk_mem 6 185 rfl rfl, gk_mem 1 12 rfl rfl, ⟨by decide +kernel, by decide +kernel, by decide +kernel⟩, by decide +kernel⟩
set_option maxRecDepth 100000 in
theorem im_mo_takesPassage : Cond.instanceMethod (gk_M 215).1 ∈ gk_TT := gk_mem 6 184 rfl rfl
set_option maxRecDepth 100000 in
theorem sl_mo_takesPassage : Cond.selects (gk_M 215).1.cls (gk_M 215).1 (gk_M 215).1 ∈ gk_TT := gk_mem 0 59 rfl rfl
set_option maxRecDepth 100000 in
theorem jk_mo_readPassage : gk_jok (gk_M 216) 0 := ⟨gk_mem 6 169 rfl rfl, gk_mem 1 12 rfl rfl, ⟨by decide +kernel, by decide +kernel, by decide +kernel⟩, by decide +kernel⟩
set_option maxRecDepth 100000 in
theorem im_mo_readPassage : Cond.instanceMethod (gk_M 216).1 ∈ gk_TT := gk_mem 6 168 rfl rfl
set_option maxRecDepth 100000 in
theorem sl_mo_readPassage : Cond.selects (gk_M 216).1.cls (gk_M 216).1 (gk_M 216).1 ∈ gk_TT := gk_mem 0 55 rfl rfl
set_option maxRecDepth 100000 in
theorem jk_mo_readPassages : gk_jok (gk_M 217) 0 := ⟨gk_mem 6 157 rfl rfl, gk_mem 1 12 rfl rfl, ⟨by decide +kernel, by decide +kernel, by decide +kernel⟩, by decide +kernel⟩
set_option maxRecDepth 100000 in
theorem im_mo_readPassages : Cond.instanceMethod (gk_M 217).1 ∈ gk_TT := gk_mem 6 156 rfl rfl
set_option maxRecDepth 100000 in
theorem sl_mo_readPassages : Cond.selects (gk_M 217).1.cls (gk_M 217).1 (gk_M 217).1 ∈ gk_TT := gk_mem 0 52 rfl rfl
set_option maxRecDepth 100000 in
theorem jk_mo_kindOfDeed : gk_jok (gk_M 218) 0 := ⟨gk_mem 6 205 rfl rfl, gk_mem 1 12 rfl rfl, ⟨by decide +kernel, by decide +kernel, by decide +kernel⟩, by decide +kernel⟩
set_option maxRecDepth 100000 in
theorem im_mo_kindOfDeed : Cond.instanceMethod (gk_M 218).1 ∈ gk_TT := gk_mem 6 204 rfl rfl
set_option maxRecDepth 100000 in
theorem sl_mo_kindOfDeed : Cond.selects (gk_M 218).1.cls (gk_M 218).1 (gk_M 218).1 ∈ gk_TT := gk_mem 0 64 rfl rfl
set_option maxRecDepth 100000 in
theorem jk_mo_readDeedMore : gk_jok (gk_M 219) 1 := ⟨gk_mem 6 209 rfl rfl, gk_mem 1 12 rfl rfl, ⟨by decide +kernel, by decide +kernel, by decide +kernel⟩, by decide +kernel⟩
set_option maxRecDepth 100000 in
theorem im_mo_readDeedMore : Cond.instanceMethod (gk_M 219).1 ∈ gk_TT := gk_mem 6 208 rfl rfl
set_option maxRecDepth 100000 in
theorem sl_mo_readDeedMore : Cond.selects (gk_M 219).1.cls (gk_M 219).1 (gk_M 219).1 ∈ gk_TT := gk_mem 0 65 rfl rfl
set_option maxRecDepth 100000 in
theorem jk_mo_readDeed : gk_jok (gk_M 220) 1 := ⟨gk_mem 6 201 rfl rfl, gk_mem 1 12 rfl rfl, ⟨by decide +kernel, by decide +kernel, by decide +kernel⟩, by decide +kernel⟩
set_option maxRecDepth 100000 in
theorem im_mo_readDeed : Cond.instanceMethod (gk_M 220).1 ∈ gk_TT := gk_mem 6 200 rfl rfl
set_option maxRecDepth 100000 in
theorem sl_mo_readDeed : Cond.selects (gk_M 220).1.cls (gk_M 220).1 (gk_M 220).1 ∈ gk_TT := gk_mem 0 63 rfl rfl
set_option maxRecDepth 100000 in
theorem jk_mo_readDiary : gk_jok (gk_M 221) 0 := ⟨gk_mem 6 197 rfl rfl, gk_mem 1 12 rfl rfl, ⟨by decide +kernel, by decide +kernel, by decide +kernel⟩, by decide +kernel⟩
set_option maxRecDepth 100000 in
theorem im_mo_readDiary : Cond.instanceMethod (gk_M 221).1 ∈ gk_TT := gk_mem 6 196 rfl rfl
set_option maxRecDepth 100000 in
theorem sl_mo_readDiary : Cond.selects (gk_M 221).1.cls (gk_M 221).1 (gk_M 221).1 ∈ gk_TT := gk_mem 0 62 rfl rfl
set_option maxRecDepth 100000 in
theorem jk_mo_readVouch : gk_jok (gk_M 222) 0 := ⟨gk_mem 6 217 rfl rfl, gk_mem 1 12 rfl rfl, ⟨by decide +kernel, by decide +kernel, by decide +kernel⟩, by decide +kernel⟩
set_option maxRecDepth 100000 in
theorem im_mo_readVouch : Cond.instanceMethod (gk_M 222).1 ∈ gk_TT := gk_mem 6 216 rfl rfl
set_option maxRecDepth 100000 in
theorem sl_mo_readVouch : Cond.selects (gk_M 222).1.cls (gk_M 222).1 (gk_M 222).1 ∈ gk_TT := gk_mem 0 67 rfl rfl
set_option maxRecDepth 100000 in
theorem jk_mo_readVouches : gk_jok (gk_M 223) 0 := ⟨gk_mem 6 213 rfl rfl, gk_mem 1 12 rfl rfl, ⟨by decide +kernel, by decide +kernel, by decide +kernel⟩, by decide +kernel⟩
set_option maxRecDepth 100000 in
theorem im_mo_readVouches : Cond.instanceMethod (gk_M 223).1 ∈ gk_TT := gk_mem 6 212 rfl rfl
set_option maxRecDepth 100000 in
theorem sl_mo_readVouches : Cond.selects (gk_M 223).1.cls (gk_M 223).1 (gk_M 223).1 ∈ gk_TT := gk_mem 0 66 rfl rfl
set_option maxRecDepth 100000 in
theorem jk_mo_readsText : gk_jok (gk_M 224) 1 := ⟨gk_mem 6 129 rfl rfl, gk_mem 1 12 rfl rfl, ⟨by decide +kernel, by decide +kernel, by decide +kernel⟩, by decide +kernel⟩
set_option maxRecDepth 100000 in
theorem im_mo_readsText : Cond.instanceMethod (gk_M 224).1 ∈ gk_TT := gk_mem 6 128 rfl rfl
set_option maxRecDepth 100000 in
theorem sl_mo_readsText : Cond.selects (gk_M 224).1.cls (gk_M 224).1 (gk_M 224).1 ∈ gk_TT := gk_mem 0 45 rfl rfl
set_option maxRecDepth 100000 in
theorem jk_mo_takesOther : gk_jok (gk_M 225) 2 := ⟨gk_mem 7 29 rfl rfl, gk_mem 1 12 rfl rfl, ⟨by decide +kernel, by decide +kernel, by decide +kernel⟩, by decide +kernel⟩
set_option maxRecDepth 100000 in
theorem im_mo_takesOther : Cond.instanceMethod (gk_M 225).1 ∈ gk_TT := gk_mem 7 28 rfl rfl
set_option maxRecDepth 100000 in
theorem sl_mo_takesOther : Cond.selects (gk_M 225).1.cls (gk_M 225).1 (gk_M 225).1 ∈ gk_TT := gk_mem 0 80 rfl rfl
set_option maxRecDepth 100000 in
theorem jk_mo_text : gk_jok (gk_M 226) 1 := ⟨gk_mem 6 125 rfl rfl, gk_mem 1 12 rfl rfl, ⟨by decide +kernel, by decide +kernel, by decide +kernel⟩, by decide +kernel⟩
set_option maxRecDepth 100000 in
theorem im_mo_text : Cond.instanceMethod (gk_M 226).1 ∈ gk_TT := gk_mem 6 123 rfl rfl
set_option maxRecDepth 100000 in
theorem sl_mo_text : Cond.selects (gk_M 226).1.cls (gk_M 226).1 (gk_M 226).1 ∈ gk_TT := gk_mem 6 124 rfl rfl
set_option maxRecDepth 100000 in
theorem jk_mo_fault : gk_jok (gk_M 227) 1 := ⟨gk_mem 7 33 rfl rfl, gk_mem 1 12 rfl rfl, ⟨by decide +kernel, by decide +kernel, by decide +kernel⟩, by decide +kernel⟩
set_option maxRecDepth 100000 in
theorem im_mo_fault : Cond.instanceMethod (gk_M 227).1 ∈ gk_TT := gk_mem 7 31 rfl rfl
set_option maxRecDepth 100000 in
theorem sl_mo_fault : Cond.selects (gk_M 227).1.cls (gk_M 227).1 (gk_M 227).1 ∈ gk_TT := gk_mem 7 32 rfl rfl
set_option maxRecDepth 100000 in
theorem jk_mo_twoOf : gk_jok (gk_M 228) 3 := ⟨gk_mem 7 105 rfl rfl, gk_mem 1 12 rfl rfl, ⟨by decide +kernel, by decide +kernel, by decide +kernel⟩, by decide +kernel⟩
set_option maxRecDepth 100000 in
theorem im_mo_twoOf : Cond.instanceMethod (gk_M 228).1 ∈ gk_TT := gk_mem 7 104 rfl rfl
set_option maxRecDepth 100000 in
theorem sl_mo_twoOf : Cond.selects (gk_M 228).1.cls (gk_M 228).1 (gk_M 228).1 ∈ gk_TT := gk_mem 0 97 rfl rfl
set_option maxRecDepth 100000 in
theorem jk_mo_runs : gk_jok (gk_M 229) 3 := ⟨gk_mem 7 101 rfl rfl, gk_mem 1 12 rfl rfl, ⟨by decide +kernel, by decide +kernel, by decide +kernel⟩, by decide +kernel⟩
set_option maxRecDepth 100000 in
theorem im_mo_runs : Cond.instanceMethod (gk_M 229).1 ∈ gk_TT := gk_mem 7 100 rfl rfl
set_option maxRecDepth 100000 in
theorem sl_mo_runs : Cond.selects (gk_M 229).1.cls (gk_M 229).1 (gk_M 229).1 ∈ gk_TT := gk_mem 0 96 rfl rfl
set_option maxRecDepth 100000 in
theorem jk_mo_lineOf : gk_jok (gk_M 230) 1 := ⟨gk_mem 7 97 rfl rfl, gk_mem 1 12 rfl rfl, ⟨by decide +kernel, by decide +kernel, by decide +kernel⟩, by decide +kernel⟩
set_option maxRecDepth 100000 in
theorem im_mo_lineOf : Cond.instanceMethod (gk_M 230).1 ∈ gk_TT := gk_mem 7 96 rfl rfl
set_option maxRecDepth 100000 in
theorem sl_mo_lineOf : Cond.selects (gk_M 230).1.cls (gk_M 230).1 (gk_M 230).1 ∈ gk_TT := gk_mem 0 95 rfl rfl
set_option maxRecDepth 100000 in
theorem jk_mo_lightOf : gk_jok (gk_M 231) 1 := ⟨gk_mem 7 89 rfl rfl, gk_mem 1 12 rfl rfl, ⟨by decide +kernel, by decide +kernel, by decide +kernel⟩, by decide +kernel⟩
set_option maxRecDepth 100000 in
theorem im_mo_lightOf : Cond.instanceMethod (gk_M 231).1 ∈ gk_TT := gk_mem 7 88 rfl rfl
set_option maxRecDepth 100000 in
theorem sl_mo_lightOf : Cond.selects (gk_M 231).1.cls (gk_M 231).1 (gk_M 231).1 ∈ gk_TT := gk_mem 0 93 rfl rfl
set_option maxRecDepth 100000 in
theorem jk_mo_asks : gk_jok (gk_M 232) 2 := ⟨gk_mem 7 57 rfl rfl, gk_mem 1 12 rfl rfl, ⟨by decide +kernel, by decide +kernel, by decide +kernel⟩, by decide +kernel⟩
set_option maxRecDepth 100000 in
theorem im_mo_asks : Cond.instanceMethod (gk_M 232).1 ∈ gk_TT := gk_mem 7 56 rfl rfl
set_option maxRecDepth 100000 in
theorem sl_mo_asks : Cond.selects (gk_M 232).1.cls (gk_M 232).1 (gk_M 232).1 ∈ gk_TT := gk_mem 0 85 rfl rfl
set_option maxRecDepth 100000 in
theorem jk_mo_lawTells : gk_jok (gk_M 233) 3 := ⟨gk_mem 7 93 rfl rfl, gk_mem 1 12 rfl rfl, ⟨by decide +kernel, by decide +kernel, by decide +kernel⟩, by decide +kernel⟩
set_option maxRecDepth 100000 in
theorem im_mo_lawTells : Cond.instanceMethod (gk_M 233).1 ∈ gk_TT := gk_mem 7 92 rfl rfl
set_option maxRecDepth 100000 in
theorem sl_mo_lawTells : Cond.selects (gk_M 233).1.cls (gk_M 233).1 (gk_M 233).1 ∈ gk_TT := gk_mem 0 94 rfl rfl
set_option maxRecDepth 100000 in
theorem jk_mo_creepsOf : gk_jok (gk_M 234) 2 := ⟨gk_mem 7 165 rfl rfl, gk_mem 1 12 rfl rfl, ⟨by decide +kernel, by decide +kernel, by decide +kernel⟩, by decide +kernel⟩
set_option maxRecDepth 100000 in
theorem im_mo_creepsOf : Cond.instanceMethod (gk_M 234).1 ∈ gk_TT := gk_mem 7 164 rfl rfl
set_option maxRecDepth 100000 in
theorem sl_mo_creepsOf : Cond.selects (gk_M 234).1.cls (gk_M 234).1 (gk_M 234).1 ∈ gk_TT := gk_mem 0 111 rfl rfl
set_option maxRecDepth 100000 in
theorem jk_mo_worthOf : gk_jok (gk_M 235) 1 := ⟨gk_mem 7 53 rfl rfl, gk_mem 1 12 rfl rfl, ⟨by decide +kernel, by decide +kernel, by decide +kernel⟩, by decide +kernel⟩
set_option maxRecDepth 100000 in
theorem im_mo_worthOf : Cond.instanceMethod (gk_M 235).1 ∈ gk_TT := gk_mem 7 52 rfl rfl
set_option maxRecDepth 100000 in
theorem sl_mo_worthOf : Cond.selects (gk_M 235).1.cls (gk_M 235).1 (gk_M 235).1 ∈ gk_TT := gk_mem 0 84 rfl rfl
set_option maxRecDepth 100000 in
theorem jk_mo_comesOf : gk_jok (gk_M 236) 1 := ⟨gk_mem 7 175 rfl rfl, gk_mem 1 12 rfl rfl, ⟨by decide +kernel, by decide +kernel, by decide +kernel⟩, by decide +kernel⟩
set_option maxRecDepth 100000 in
theorem im_mo_comesOf : Cond.instanceMethod (gk_M 236).1 ∈ gk_TT := gk_mem 7 174 rfl rfl
set_option maxRecDepth 100000 in
theorem sl_mo_comesOf : Cond.selects (gk_M 236).1.cls (gk_M 236).1 (gk_M 236).1 ∈ gk_TT := gk_mem 0 113 rfl rfl
set_option maxRecDepth 100000 in
theorem jk_mo_notes : gk_jok (gk_M 237) 3 := ⟨gk_mem 7 125 rfl rfl, gk_mem 1 12 rfl rfl, ⟨by decide +kernel, by decide +kernel, by decide +kernel⟩, by decide +kernel⟩
set_option maxRecDepth 100000 in
theorem im_mo_notes : Cond.instanceMethod (gk_M 237).1 ∈ gk_TT := gk_mem 7 124 rfl rfl
set_option maxRecDepth 100000 in
theorem sl_mo_notes : Cond.selects (gk_M 237).1.cls (gk_M 237).1 (gk_M 237).1 ∈ gk_TT := gk_mem 0 102 rfl rfl
set_option maxRecDepth 100000 in
theorem jk_mo_getsPaid : gk_jok (gk_M 238) 1 := ⟨gk_mem 7 133 rfl rfl, gk_mem 1 12 rfl rfl, ⟨by decide +kernel, by decide +kernel, by decide +kernel⟩, by decide +kernel⟩
set_option maxRecDepth 100000 in
theorem im_mo_getsPaid : Cond.instanceMethod (gk_M 238).1 ∈ gk_TT := gk_mem 7 132 rfl rfl
set_option maxRecDepth 100000 in
theorem sl_mo_getsPaid : Cond.selects (gk_M 238).1.cls (gk_M 238).1 (gk_M 238).1 ∈ gk_TT := gk_mem 0 104 rfl rfl
set_option maxRecDepth 100000 in
theorem jk_mo_isTold : gk_jok (gk_M 239) 3 := ⟨gk_mem 7 41 rfl rfl, gk_mem 1 12 rfl rfl, ⟨by decide +kernel, by decide +kernel, by decide +kernel⟩, by decide +kernel⟩
set_option maxRecDepth 100000 in
theorem im_mo_isTold : Cond.instanceMethod (gk_M 239).1 ∈ gk_TT := gk_mem 7 40 rfl rfl
set_option maxRecDepth 100000 in
theorem sl_mo_isTold : Cond.selects (gk_M 239).1.cls (gk_M 239).1 (gk_M 239).1 ∈ gk_TT := gk_mem 0 81 rfl rfl
set_option maxRecDepth 100000 in
theorem jk_mo_canAct : gk_jok (gk_M 240) 3 := ⟨gk_mem 7 49 rfl rfl, gk_mem 1 12 rfl rfl, ⟨by decide +kernel, by decide +kernel, by decide +kernel⟩, by decide +kernel⟩
set_option maxRecDepth 100000 in
theorem im_mo_canAct : Cond.instanceMethod (gk_M 240).1 ∈ gk_TT := gk_mem 7 48 rfl rfl
set_option maxRecDepth 100000 in
theorem sl_mo_canAct : Cond.selects (gk_M 240).1.cls (gk_M 240).1 (gk_M 240).1 ∈ gk_TT := gk_mem 0 83 rfl rfl
set_option maxRecDepth 100000 in
theorem jk_mo_isBought : gk_jok (gk_M 241) 1 := ⟨gk_mem 7 121 rfl rfl, gk_mem 1 12 rfl rfl, ⟨by decide +kernel, by decide +kernel, by decide +kernel⟩, by decide +kernel⟩
set_option maxRecDepth 100000 in
theorem im_mo_isBought : Cond.instanceMethod (gk_M 241).1 ∈ gk_TT := gk_mem 7 120 rfl rfl
set_option maxRecDepth 100000 in
theorem sl_mo_isBought : Cond.selects (gk_M 241).1.cls (gk_M 241).1 (gk_M 241).1 ∈ gk_TT := gk_mem 0 101 rfl rfl
set_option maxRecDepth 100000 in
theorem jk_mo_sells : gk_jok (gk_M 242) 1 := ⟨gk_mem 7 129 rfl rfl, gk_mem 1 12 rfl rfl, ⟨by decide +kernel, by decide +kernel, by decide +kernel⟩, by decide +kernel⟩
set_option maxRecDepth 100000 in
theorem im_mo_sells : Cond.instanceMethod (gk_M 242).1 ∈ gk_TT := gk_mem 7 128 rfl rfl
set_option maxRecDepth 100000 in
theorem sl_mo_sells : Cond.selects (gk_M 242).1.cls (gk_M 242).1 (gk_M 242).1 ∈ gk_TT := gk_mem 0 103 rfl rfl
set_option maxRecDepth 100000 in
theorem jk_mo_hoses : gk_jok (gk_M 243) 2 := ⟨gk_mem 7 141 rfl rfl, gk_mem 1 12 rfl rfl, ⟨by decide +kernel, by decide +kernel, by decide +kernel⟩, by decide +kernel⟩
set_option maxRecDepth 100000 in
theorem im_mo_hoses : Cond.instanceMethod (gk_M 243).1 ∈ gk_TT := gk_mem 7 140 rfl rfl
set_option maxRecDepth 100000 in
theorem sl_mo_hoses : Cond.selects (gk_M 243).1.cls (gk_M 243).1 (gk_M 243).1 ∈ gk_TT := gk_mem 0 106 rfl rfl
set_option maxRecDepth 100000 in
theorem jk_mo_wets : gk_jok (gk_M 244) 2 := ⟨gk_mem 7 145 rfl rfl, gk_mem 1 12 rfl rfl, ⟨by decide +kernel, by decide +kernel, by decide +kernel⟩, by decide +kernel⟩
set_option maxRecDepth 100000 in
theorem im_mo_wets : Cond.instanceMethod (gk_M 244).1 ∈ gk_TT := gk_mem 7 144 rfl rfl
set_option maxRecDepth 100000 in
theorem sl_mo_wets : Cond.selects (gk_M 244).1.cls (gk_M 244).1 (gk_M 244).1 ∈ gk_TT := gk_mem 0 107 rfl rfl
set_option maxRecDepth 100000 in
theorem jk_mo_acts : gk_jok (gk_M 245) 3 := ⟨gk_mem 7 117 rfl rfl, gk_mem 1 12 rfl rfl, ⟨by decide +kernel, by decide +kernel, by decide +kernel⟩, by decide +kernel⟩
set_option maxRecDepth 100000 in
theorem im_mo_acts : Cond.instanceMethod (gk_M 245).1 ∈ gk_TT := gk_mem 7 116 rfl rfl
set_option maxRecDepth 100000 in
theorem sl_mo_acts : Cond.selects (gk_M 245).1.cls (gk_M 245).1 (gk_M 245).1 ∈ gk_TT := gk_mem 0 100 rfl rfl
set_option maxRecDepth 100000 in
theorem jk_mo_act : gk_jok (gk_M 246) 3 := ⟨gk_mem 7 37 rfl rfl, gk_mem 1 12 rfl rfl, ⟨by decide +kernel, by decide +kernel, by decide +kernel⟩, by decide +kernel⟩
set_option maxRecDepth 100000 in
theorem im_mo_act : Cond.instanceMethod (gk_M 246).1 ∈ gk_TT := gk_mem 7 35 rfl rfl
set_option maxRecDepth 100000 in
theorem sl_mo_act : Cond.selects (gk_M 246).1.cls (gk_M 246).1 (gk_M 246).1 ∈ gk_TT := gk_mem 7 36 rfl rfl
set_option maxRecDepth 100000 in
theorem jk_mo_creepsOn : gk_jok (gk_M 247) 1 := ⟨gk_mem 7 161 rfl rfl, gk_mem 1 12 rfl rfl, ⟨by decide +kernel, by decide +kernel, by decide +kernel⟩, by decide +kernel⟩
set_option maxRecDepth 100000 in
theorem im_mo_creepsOn : Cond.instanceMethod (gk_M 247).1 ∈ gk_TT := gk_mem 7 160 rfl rfl
set_option maxRecDepth 100000 in
theorem sl_mo_creepsOn : Cond.selects (gk_M 247).1.cls (gk_M 247).1 (gk_M 247).1 ∈ gk_TT := gk_mem 0 110 rfl rfl
set_option maxRecDepth 100000 in
theorem jk_mo_isShown : gk_jok (gk_M 248) 1 := ⟨gk_mem 7 157 rfl rfl, gk_mem 1 12 rfl rfl, ⟨by decide +kernel, by decide +kernel, by decide +kernel⟩, by decide +kernel⟩
set_option maxRecDepth 100000 in
theorem im_mo_isShown : Cond.instanceMethod (gk_M 248).1 ∈ gk_TT := gk_mem 7 156 rfl rfl
set_option maxRecDepth 100000 in
theorem sl_mo_isShown : Cond.selects (gk_M 248).1.cls (gk_M 248).1 (gk_M 248).1 ∈ gk_TT := gk_mem 0 109 rfl rfl
set_option maxRecDepth 100000 in
theorem jk_mo_goesBy : gk_jok (gk_M 249) 0 := ⟨gk_mem 7 153 rfl rfl, gk_mem 1 12 rfl rfl, ⟨by decide +kernel, by decide +kernel, by decide +kernel⟩, by decide +kernel⟩
set_option maxRecDepth 100000 in
theorem im_mo_goesBy : Cond.instanceMethod (gk_M 249).1 ∈ gk_TT := gk_mem 7 152 rfl rfl
set_option maxRecDepth 100000 in
theorem sl_mo_goesBy : Cond.selects (gk_M 249).1.cls (gk_M 249).1 (gk_M 249).1 ∈ gk_TT := gk_mem 0 108 rfl rfl
set_option maxRecDepth 100000 in
theorem jk_mo_days : gk_jok (gk_M 250) 1 := ⟨gk_mem 7 149 rfl rfl, gk_mem 1 12 rfl rfl, ⟨by decide +kernel, by decide +kernel, by decide +kernel⟩, by decide +kernel⟩
set_option maxRecDepth 100000 in
theorem im_mo_days : Cond.instanceMethod (gk_M 250).1 ∈ gk_TT := gk_mem 7 147 rfl rfl
set_option maxRecDepth 100000 in
theorem sl_mo_days : Cond.selects (gk_M 250).1.cls (gk_M 250).1 (gk_M 250).1 ∈ gk_TT := gk_mem 7 148 rfl rfl
set_option maxRecDepth 100000 in
theorem jk_mo_of : gk_jok (gk_M 251) 2 := ⟨gk_mem 7 179 rfl rfl, gk_mem 1 12 rfl rfl, ⟨by decide +kernel, by decide +kernel, by decide +kernel⟩, by decide +kernel⟩
set_option maxRecDepth 100000 in
theorem im_mo_of : Cond.instanceMethod (gk_M 251).1 ∈ gk_TT := gk_mem 7 177 rfl rfl
set_option maxRecDepth 100000 in
theorem sl_mo_of : Cond.selects (gk_M 251).1.cls (gk_M 251).1 (gk_M 251).1 ∈ gk_TT := gk_mem 7 178 rfl rfl
set_option maxRecDepth 100000 in
theorem jk_mo_creeps : gk_jok (gk_M 252) 2 := ⟨gk_mem 7 183 rfl rfl, gk_mem 1 12 rfl rfl, ⟨by decide +kernel, by decide +kernel, by decide +kernel⟩, by decide +kernel⟩
set_option maxRecDepth 100000 in
theorem im_mo_creeps : Cond.instanceMethod (gk_M 252).1 ∈ gk_TT := gk_mem 7 181 rfl rfl
set_option maxRecDepth 100000 in
theorem sl_mo_creeps : Cond.selects (gk_M 252).1.cls (gk_M 252).1 (gk_M 252).1 ∈ gk_TT := gk_mem 7 182 rfl rfl
set_option maxRecDepth 100000 in
theorem jk_mo_room : gk_jok (gk_M 253) 2 := ⟨gk_mem 7 187 rfl rfl, gk_mem 1 12 rfl rfl, ⟨by decide +kernel, by decide +kernel, by decide +kernel⟩, by decide +kernel⟩
set_option maxRecDepth 100000 in
theorem im_mo_room : Cond.instanceMethod (gk_M 253).1 ∈ gk_TT := gk_mem 7 185 rfl rfl
set_option maxRecDepth 100000 in
theorem sl_mo_room : Cond.selects (gk_M 253).1.cls (gk_M 253).1 (gk_M 253).1 ∈ gk_TT := gk_mem 7 186 rfl rfl
set_option maxRecDepth 100000 in
theorem jk_mo_book : gk_jok (gk_M 254) 2 := ⟨gk_mem 7 191 rfl rfl, gk_mem 1 12 rfl rfl, ⟨by decide +kernel, by decide +kernel, by decide +kernel⟩, by decide +kernel⟩
set_option maxRecDepth 100000 in
theorem im_mo_book : Cond.instanceMethod (gk_M 254).1 ∈ gk_TT := gk_mem 7 189 rfl rfl
set_option maxRecDepth 100000 in
theorem sl_mo_book : Cond.selects (gk_M 254).1.cls (gk_M 254).1 (gk_M 254).1 ∈ gk_TT := gk_mem 7 190 rfl rfl
set_option maxRecDepth 100000 in
theorem jk_mo_ownedSet : gk_jok (gk_M 255) 0 := ⟨gk_mem 8 116 rfl rfl, gk_mem 1 12 rfl rfl, ⟨by decide +kernel, by decide +kernel, by decide +kernel⟩, by decide +kernel⟩
set_option maxRecDepth 100000 in
theorem im_mo_ownedSet : Cond.instanceMethod (gk_M 255).1 ∈ gk_TT := gk_mem 8 115 rfl rfl
set_option maxRecDepth 100000 in
theorem sl_mo_ownedSet : Cond.selects (gk_M 255).1.cls (gk_M 255).1 (gk_M 255).1 ∈ gk_TT := gk_mem 0 146 rfl rfl
set_option maxRecDepth 100000 in
theorem jk_mo_goes : gk_jok (gk_M 256) 2 := ⟨gk_mem 7 195 rfl rfl, gk_mem 1 12 rfl rfl, ⟨by decide +kernel, by decide +kernel, by decide +kernel⟩, by decide +kernel⟩
set_option maxRecDepth 100000 in
theorem im_mo_goes : Cond.instanceMethod (gk_M 256).1 ∈ gk_TT := gk_mem 7 193 rfl rfl
set_option maxRecDepth 100000 in
theorem sl_mo_goes : Cond.selects (gk_M 256).1.cls (gk_M 256).1 (gk_M 256).1 ∈ gk_TT := gk_mem 7 194 rfl rfl
set_option maxRecDepth 100000 in
theorem jk_mo_isBeside : gk_jok (gk_M 257) 2 := ⟨gk_mem 7 219 rfl rfl, gk_mem 1 12 rfl rfl, ⟨by decide +kernel, by decide +kernel, by decide +kernel⟩, by decide +kernel⟩
set_option maxRecDepth 100000 in
theorem im_mo_isBeside : Cond.instanceMethod (gk_M 257).1 ∈ gk_TT := gk_mem 7 218 rfl rfl
set_option maxRecDepth 100000 in
theorem sl_mo_isBeside : Cond.selects (gk_M 257).1.cls (gk_M 257).1 (gk_M 257).1 ∈ gk_TT := gk_mem 0 118 rfl rfl
set_option maxRecDepth 100000 in
theorem jk_mo_findsParts : gk_jok (gk_M 258) 2 := ⟨gk_mem 7 215 rfl rfl, gk_mem 1 12 rfl rfl, ⟨by decide +kernel, by decide +kernel, by decide +kernel⟩, by decide +kernel⟩
set_option maxRecDepth 100000 in
theorem im_mo_findsParts : Cond.instanceMethod (gk_M 258).1 ∈ gk_TT := gk_mem 7 214 rfl rfl
set_option maxRecDepth 100000 in
theorem sl_mo_findsParts : Cond.selects (gk_M 258).1.cls (gk_M 258).1 (gk_M 258).1 ∈ gk_TT := gk_mem 0 117 rfl rfl
set_option maxRecDepth 100000 in
theorem jk_mo_isAtEdge : gk_jok (gk_M 259) 1 := ⟨gk_mem 7 235 rfl rfl, gk_mem 1 12 rfl rfl, ⟨by decide +kernel, by decide +kernel, by decide +kernel⟩, by decide +kernel⟩
set_option maxRecDepth 100000 in
theorem im_mo_isAtEdge : Cond.instanceMethod (gk_M 259).1 ∈ gk_TT := gk_mem 7 234 rfl rfl
set_option maxRecDepth 100000 in
theorem sl_mo_isAtEdge : Cond.selects (gk_M 259).1.cls (gk_M 259).1 (gk_M 259).1 ∈ gk_TT := gk_mem 0 122 rfl rfl
set_option maxRecDepth 100000 in
theorem jk_mo_comesOut : gk_jok (gk_M 260) 1 := ⟨gk_mem 7 231 rfl rfl, gk_mem 1 12 rfl rfl, ⟨by decide +kernel, by decide +kernel, by decide +kernel⟩, by decide +kernel⟩
set_option maxRecDepth 100000 in
theorem im_mo_comesOut : Cond.instanceMethod (gk_M 260).1 ∈ gk_TT := gk_mem 7 230 rfl rfl
set_option maxRecDepth 100000 in
theorem sl_mo_comesOut : Cond.selects (gk_M 260).1.cls (gk_M 260).1 (gk_M 260).1 ∈ gk_TT := gk_mem 0 121 rfl rfl
set_option maxRecDepth 100000 in
theorem jk_mo_islandsOf : gk_jok (gk_M 261) 1 := ⟨gk_mem 7 211 rfl rfl, gk_mem 1 12 rfl rfl, ⟨by decide +kernel, by decide +kernel, by decide +kernel⟩, by decide +kernel⟩
set_option maxRecDepth 100000 in
theorem im_mo_islandsOf : Cond.instanceMethod (gk_M 261).1 ∈ gk_TT := gk_mem 7 210 rfl rfl
set_option maxRecDepth 100000 in
theorem sl_mo_islandsOf : Cond.selects (gk_M 261).1.cls (gk_M 261).1 (gk_M 261).1 ∈ gk_TT := gk_mem 0 116 rfl rfl
set_option maxRecDepth 100000 in
theorem jk_mo_holesOf : gk_jok (gk_M 262) 1 := ⟨gk_mem 7 227 rfl rfl, gk_mem 1 12 rfl rfl, ⟨by decide +kernel, by decide +kernel, by decide +kernel⟩, by decide +kernel⟩
set_option maxRecDepth 100000 in
theorem im_mo_holesOf : Cond.instanceMethod (gk_M 262).1 ∈ gk_TT := gk_mem 7 226 rfl rfl
set_option maxRecDepth 100000 in
theorem sl_mo_holesOf : Cond.selects (gk_M 262).1.cls (gk_M 262).1 (gk_M 262).1 ∈ gk_TT := gk_mem 0 120 rfl rfl
set_option maxRecDepth 100000 in
theorem jk_mo_takesOwn : gk_jok (gk_M 263) 1 := ⟨gk_mem 8 3 rfl rfl, gk_mem 1 12 rfl rfl, ⟨by decide +kernel, by decide +kernel, by decide +kernel⟩, by decide +kernel⟩
set_option maxRecDepth 100000 in
theorem im_mo_takesOwn : Cond.instanceMethod (gk_M 263).1 ∈ gk_TT := gk_mem 8 2 rfl rfl
set_option maxRecDepth 100000 in
theorem sl_mo_takesOwn : Cond.selects (gk_M 263).1.cls (gk_M 263).1 (gk_M 263).1 ∈ gk_TT := gk_mem 0 124 rfl rfl
set_option maxRecDepth 100000 in
theorem jk_mo_isOwnLeft : gk_jok (gk_M 264) 0 := ⟨gk_mem 8 7 rfl rfl, gk_mem 1 12 rfl rfl, ⟨by decide +kernel, by decide +kernel, by decide +kernel⟩, by decide +kernel⟩
set_option maxRecDepth 100000 in
theorem im_mo_isOwnLeft : Cond.instanceMethod (gk_M 264).1 ∈ gk_TT := gk_mem 8 6 rfl rfl
set_option maxRecDepth 100000 in
theorem sl_mo_isOwnLeft : Cond.selects (gk_M 264).1.cls (gk_M 264).1 (gk_M 264).1 ∈ gk_TT := gk_mem 0 125 rfl rfl
set_option maxRecDepth 100000 in
theorem jk_mo_shrinks : gk_jok (gk_M 265) 0 := ⟨gk_mem 8 11 rfl rfl, gk_mem 1 12 rfl rfl, ⟨by decide +kernel, by decide +kernel, by decide +kernel⟩, by decide +kernel⟩
set_option maxRecDepth 100000 in
theorem im_mo_shrinks : Cond.instanceMethod (gk_M 265).1 ∈ gk_TT := gk_mem 8 10 rfl rfl
set_option maxRecDepth 100000 in
theorem sl_mo_shrinks : Cond.selects (gk_M 265).1.cls (gk_M 265).1 (gk_M 265).1 ∈ gk_TT := gk_mem 0 126 rfl rfl
set_option maxRecDepth 100000 in
theorem jk_mo_depthOf : gk_jok (gk_M 266) 1 := ⟨gk_mem 7 239 rfl rfl, gk_mem 1 12 rfl rfl, ⟨by decide +kernel, by decide +kernel, by decide +kernel⟩, by decide +kernel⟩
set_option maxRecDepth 100000 in
theorem im_mo_depthOf : Cond.instanceMethod (gk_M 266).1 ∈ gk_TT := gk_mem 7 238 rfl rfl
set_option maxRecDepth 100000 in
theorem sl_mo_depthOf : Cond.selects (gk_M 266).1.cls (gk_M 266).1 (gk_M 266).1 ∈ gk_TT := gk_mem 0 123 rfl rfl
set_option maxRecDepth 100000 in
theorem jk_mo_shape : gk_jok (gk_M 267) 2 := ⟨gk_mem 7 207 rfl rfl, gk_mem 1 12 rfl rfl, ⟨by decide +kernel, by decide +kernel, by decide +kernel⟩, by decide +kernel⟩
set_option maxRecDepth 100000 in
theorem im_mo_shape : Cond.instanceMethod (gk_M 267).1 ∈ gk_TT := gk_mem 7 205 rfl rfl
set_option maxRecDepth 100000 in
theorem sl_mo_shape : Cond.selects (gk_M 267).1.cls (gk_M 267).1 (gk_M 267).1 ∈ gk_TT := gk_mem 7 206 rfl rfl
set_option maxRecDepth 100000 in
theorem jk_mo_mirrors : gk_jok (gk_M 268) 0 := ⟨gk_mem 8 23 rfl rfl, gk_mem 1 12 rfl rfl, ⟨by decide +kernel, by decide +kernel, by decide +kernel⟩, by decide +kernel⟩
set_option maxRecDepth 100000 in
theorem im_mo_mirrors : Cond.instanceMethod (gk_M 268).1 ∈ gk_TT := gk_mem 8 22 rfl rfl
set_option maxRecDepth 100000 in
theorem sl_mo_mirrors : Cond.selects (gk_M 268).1.cls (gk_M 268).1 (gk_M 268).1 ∈ gk_TT := gk_mem 0 128 rfl rfl
set_option maxRecDepth 100000 in
theorem jk_mo_turnsRight : gk_jok (gk_M 269) 0 := ⟨gk_mem 8 27 rfl rfl, gk_mem 1 12 rfl rfl, ⟨by decide +kernel, by decide +kernel, by decide +kernel⟩, by decide +kernel⟩
set_option maxRecDepth 100000 in
theorem im_mo_turnsRight : Cond.instanceMethod (gk_M 269).1 ∈ gk_TT := gk_mem 8 26 rfl rfl
set_option maxRecDepth 100000 in
theorem sl_mo_turnsRight : Cond.selects (gk_M 269).1.cls (gk_M 269).1 (gk_M 269).1 ∈ gk_TT := gk_mem 0 129 rfl rfl
set_option maxRecDepth 100000 in
theorem jk_mo_pushes : gk_jok (gk_M 270) 0 := ⟨gk_mem 8 19 rfl rfl, gk_mem 1 12 rfl rfl, ⟨by decide +kernel, by decide +kernel, by decide +kernel⟩, by decide +kernel⟩
set_option maxRecDepth 100000 in
theorem im_mo_pushes : Cond.instanceMethod (gk_M 270).1 ∈ gk_TT := gk_mem 8 18 rfl rfl
set_option maxRecDepth 100000 in
theorem sl_mo_pushes : Cond.selects (gk_M 270).1.cls (gk_M 270).1 (gk_M 270).1 ∈ gk_TT := gk_mem 0 127 rfl rfl
set_option maxRecDepth 100000 in
theorem jk_mo_isAim : gk_jok (gk_M 271) 0 := ⟨gk_mem 8 31 rfl rfl, gk_mem 1 12 rfl rfl, ⟨by decide +kernel, by decide +kernel, by decide +kernel⟩, by decide +kernel⟩
set_option maxRecDepth 100000 in
theorem im_mo_isAim : Cond.instanceMethod (gk_M 271).1 ∈ gk_TT := gk_mem 8 30 rfl rfl
set_option maxRecDepth 100000 in
theorem sl_mo_isAim : Cond.selects (gk_M 271).1.cls (gk_M 271).1 (gk_M 271).1 ∈ gk_TT := gk_mem 0 130 rfl rfl
set_option maxRecDepth 100000 in
theorem jk_mo_turned : gk_jok (gk_M 272) 2 := ⟨gk_mem 8 15 rfl rfl, gk_mem 1 12 rfl rfl, ⟨by decide +kernel, by decide +kernel, by decide +kernel⟩, by decide +kernel⟩
set_option maxRecDepth 100000 in
theorem im_mo_turned : Cond.instanceMethod (gk_M 272).1 ∈ gk_TT := gk_mem 8 13 rfl rfl
set_option maxRecDepth 100000 in
theorem sl_mo_turned : Cond.selects (gk_M 272).1.cls (gk_M 272).1 (gk_M 272).1 ∈ gk_TT := gk_mem 8 14 rfl rfl
set_option maxRecDepth 100000 in
theorem jk_mo_isSquare : gk_jok (gk_M 273) 3 := ⟨gk_mem 8 43 rfl rfl, gk_mem 1 12 rfl rfl, ⟨by decide +kernel, by decide +kernel, by decide +kernel⟩, by decide +kernel⟩
set_option maxRecDepth 100000 in
theorem im_mo_isSquare : Cond.instanceMethod (gk_M 273).1 ∈ gk_TT := gk_mem 8 42 rfl rfl
set_option maxRecDepth 100000 in
theorem sl_mo_isSquare : Cond.selects (gk_M 273).1.cls (gk_M 273).1 (gk_M 273).1 ∈ gk_TT := gk_mem 0 132 rfl rfl
set_option maxRecDepth 100000 in
theorem jk_mo_firstSquare : gk_jok (gk_M 274) 2 := ⟨gk_mem 8 39 rfl rfl, gk_mem 1 12 rfl rfl, ⟨by decide +kernel, by decide +kernel, by decide +kernel⟩, by decide +kernel⟩
set_option maxRecDepth 100000 in
theorem im_mo_firstSquare : Cond.instanceMethod (gk_M 274).1 ∈ gk_TT := gk_mem 8 38 rfl rfl
set_option maxRecDepth 100000 in
theorem sl_mo_firstSquare : Cond.selects (gk_M 274).1.cls (gk_M 274).1 (gk_M 274).1 ∈ gk_TT := gk_mem 0 131 rfl rfl
set_option maxRecDepth 100000 in
theorem jk_mo_restOf : gk_jok (gk_M 275) 2 := ⟨gk_mem 8 47 rfl rfl, gk_mem 1 12 rfl rfl, ⟨by decide +kernel, by decide +kernel, by decide +kernel⟩, by decide +kernel⟩
set_option maxRecDepth 100000 in
theorem im_mo_restOf : Cond.instanceMethod (gk_M 275).1 ∈ gk_TT := gk_mem 8 46 rfl rfl
set_option maxRecDepth 100000 in
theorem sl_mo_restOf : Cond.selects (gk_M 275).1.cls (gk_M 275).1 (gk_M 275).1 ∈ gk_TT := gk_mem 0 133 rfl rfl
set_option maxRecDepth 100000 in
theorem jk_mo_isRound : gk_jok (gk_M 276) 3 := ⟨gk_mem 8 55 rfl rfl, gk_mem 1 12 rfl rfl, ⟨by decide +kernel, by decide +kernel, by decide +kernel⟩, by decide +kernel⟩
set_option maxRecDepth 100000 in
theorem im_mo_isRound : Cond.instanceMethod (gk_M 276).1 ∈ gk_TT := gk_mem 8 54 rfl rfl
set_option maxRecDepth 100000 in
theorem sl_mo_isRound : Cond.selects (gk_M 276).1.cls (gk_M 276).1 (gk_M 276).1 ∈ gk_TT := gk_mem 0 135 rfl rfl
set_option maxRecDepth 100000 in
theorem jk_mo_firstRound : gk_jok (gk_M 277) 2 := ⟨gk_mem 8 51 rfl rfl, gk_mem 1 12 rfl rfl, ⟨by decide +kernel, by decide +kernel, by decide +kernel⟩, by decide +kernel⟩
set_option maxRecDepth 100000 in
theorem im_mo_firstRound : Cond.instanceMethod (gk_M 277).1 ∈ gk_TT := gk_mem 8 50 rfl rfl
set_option maxRecDepth 100000 in
theorem sl_mo_firstRound : Cond.selects (gk_M 277).1.cls (gk_M 277).1 (gk_M 277).1 ∈ gk_TT := gk_mem 0 134 rfl rfl
set_option maxRecDepth 100000 in
theorem jk_mo_square : gk_jok (gk_M 278) 2 := ⟨gk_mem 8 35 rfl rfl, gk_mem 1 12 rfl rfl, ⟨by decide +kernel, by decide +kernel, by decide +kernel⟩, by decide +kernel⟩
set_option maxRecDepth 100000 in
theorem im_mo_square : Cond.instanceMethod (gk_M 278).1 ∈ gk_TT := gk_mem 8 33 rfl rfl
set_option maxRecDepth 100000 in
theorem sl_mo_square : Cond.selects (gk_M 278).1.cls (gk_M 278).1 (gk_M 278).1 ∈ gk_TT := gk_mem 8 34 rfl rfl
set_option maxRecDepth 100000 in
theorem jk_mo_pushedRow : gk_jok (gk_M 279) 4 := ⟨gk_mem 8 67 rfl rfl, gk_mem 1 12 rfl rfl, ⟨by decide +kernel, by decide +kernel, by decide +kernel⟩, by decide +kernel⟩
set_option maxRecDepth 100000 in
theorem im_mo_pushedRow : Cond.instanceMethod (gk_M 279).1 ∈ gk_TT := gk_mem 8 66 rfl rfl
set_option maxRecDepth 100000 in
theorem sl_mo_pushedRow : Cond.selects (gk_M 279).1.cls (gk_M 279).1 (gk_M 279).1 ∈ gk_TT := gk_mem 0 137 rfl rfl
set_option maxRecDepth 100000 in
theorem jk_mo_couplesBy : gk_jok (gk_M 280) 4 := ⟨gk_mem 8 63 rfl rfl, gk_mem 1 12 rfl rfl, ⟨by decide +kernel, by decide +kernel, by decide +kernel⟩, by decide +kernel⟩
set_option maxRecDepth 100000 in
theorem im_mo_couplesBy : Cond.instanceMethod (gk_M 280).1 ∈ gk_TT := gk_mem 8 62 rfl rfl
set_option maxRecDepth 100000 in
theorem sl_mo_couplesBy : Cond.selects (gk_M 280).1.cls (gk_M 280).1 (gk_M 280).1 ∈ gk_TT := gk_mem 0 136 rfl rfl
set_option maxRecDepth 100000 in
theorem jk_mo_fit : gk_jok (gk_M 281) 3 := ⟨gk_mem 8 59 rfl rfl, gk_mem 1 12 rfl rfl, ⟨by decide +kernel, by decide +kernel, by decide +kernel⟩, by decide +kernel⟩
set_option maxRecDepth 100000 in
theorem im_mo_fit : Cond.instanceMethod (gk_M 281).1 ∈ gk_TT := gk_mem 8 57 rfl rfl
set_option maxRecDepth 100000 in
theorem sl_mo_fit : Cond.selects (gk_M 281).1.cls (gk_M 281).1 (gk_M 281).1 ∈ gk_TT := gk_mem 8 58 rfl rfl
set_option maxRecDepth 100000 in
theorem jk_mo_stepsBy : gk_jok (gk_M 282) 3 := ⟨gk_mem 8 79 rfl rfl, gk_mem 1 12 rfl rfl, ⟨by decide +kernel, by decide +kernel, by decide +kernel⟩, by decide +kernel⟩
set_option maxRecDepth 100000 in
theorem im_mo_stepsBy : Cond.instanceMethod (gk_M 282).1 ∈ gk_TT := gk_mem 8 78 rfl rfl
set_option maxRecDepth 100000 in
theorem sl_mo_stepsBy : Cond.selects (gk_M 282).1.cls (gk_M 282).1 (gk_M 282).1 ∈ gk_TT := gk_mem 0 139 rfl rfl
set_option maxRecDepth 100000 in
theorem jk_mo_beside : gk_jok (gk_M 283) 2 := ⟨gk_mem 8 92 rfl rfl, gk_mem 1 12 rfl rfl, ⟨by decide +kernel, by decide +kernel, by decide +kernel⟩, by decide +kernel⟩
set_option maxRecDepth 100000 in
theorem im_mo_beside : Cond.instanceMethod (gk_M 283).1 ∈ gk_TT := gk_mem 8 91 rfl rfl
set_option maxRecDepth 100000 in
theorem sl_mo_beside : Cond.selects (gk_M 283).1.cls (gk_M 283).1 (gk_M 283).1 ∈ gk_TT := gk_mem 0 142 rfl rfl
set_option maxRecDepth 100000 in
theorem jk_mo_comesTo : gk_jok (gk_M 284) 2 := ⟨gk_mem 8 88 rfl rfl, gk_mem 1 12 rfl rfl, ⟨by decide +kernel, by decide +kernel, by decide +kernel⟩, by decide +kernel⟩
set_option maxRecDepth 100000 in
theorem im_mo_comesTo : Cond.instanceMethod (gk_M 284).1 ∈ gk_TT := gk_mem 8 87 rfl rfl
set_option maxRecDepth 100000 in
theorem sl_mo_comesTo : Cond.selects (gk_M 284).1.cls (gk_M 284).1 (gk_M 284).1 ∈ gk_TT := gk_mem 0 141 rfl rfl
set_option maxRecDepth 100000 in
theorem jk_mo_turnsBy : gk_jok (gk_M 285) 3 := ⟨gk_mem 8 84 rfl rfl, gk_mem 1 12 rfl rfl, ⟨by decide +kernel, by decide +kernel, by decide +kernel⟩, by decide +kernel⟩
set_option maxRecDepth 100000 in
theorem im_mo_turnsBy : Cond.instanceMethod (gk_M 285).1 ∈ gk_TT := gk_mem 8 83 rfl rfl
set_option maxRecDepth 100000 in
theorem sl_mo_turnsBy : Cond.selects (gk_M 285).1.cls (gk_M 285).1 (gk_M 285).1 ∈ gk_TT := gk_mem 0 140 rfl rfl
set_option maxRecDepth 100000 in
theorem jk_mo_walk : gk_jok (gk_M 286) 4 := ⟨gk_mem 8 75 rfl rfl, gk_mem 1 12 rfl rfl, ⟨by decide +kernel, by decide +kernel, by decide +kernel⟩, by decide +kernel⟩
set_option maxRecDepth 100000 in
theorem im_mo_walk : Cond.instanceMethod (gk_M 286).1 ∈ gk_TT := gk_mem 8 73 rfl rfl
set_option maxRecDepth 100000 in
theorem sl_mo_walk : Cond.selects (gk_M 286).1.cls (gk_M 286).1 (gk_M 286).1 ∈ gk_TT := gk_mem 8 74 rfl rfl
set_option maxRecDepth 100000 in
theorem jk_mo_sumOf : gk_jok (gk_M 287) 2 := ⟨gk_mem 8 100 rfl rfl, gk_mem 1 12 rfl rfl, ⟨by decide +kernel, by decide +kernel, by decide +kernel⟩, by decide +kernel⟩
set_option maxRecDepth 100000 in
theorem im_mo_sumOf : Cond.instanceMethod (gk_M 287).1 ∈ gk_TT := gk_mem 8 99 rfl rfl
set_option maxRecDepth 100000 in
theorem sl_mo_sumOf : Cond.selects (gk_M 287).1.cls (gk_M 287).1 (gk_M 287).1 ∈ gk_TT := gk_mem 0 143 rfl rfl
set_option maxRecDepth 100000 in
theorem jk_mo_areLike : gk_jok (gk_M 288) 2 := ⟨gk_mem 8 108 rfl rfl, gk_mem 1 12 rfl rfl, ⟨by decide +kernel, by decide +kernel, by decide +kernel⟩, by decide +kernel⟩
set_option maxRecDepth 100000 in
theorem im_mo_areLike : Cond.instanceMethod (gk_M 288).1 ∈ gk_TT := gk_mem 8 107 rfl rfl
set_option maxRecDepth 100000 in
theorem sl_mo_areLike : Cond.selects (gk_M 288).1.cls (gk_M 288).1 (gk_M 288).1 ∈ gk_TT := gk_mem 0 145 rfl rfl
set_option maxRecDepth 100000 in
theorem jk_mo_switchOf : gk_jok (gk_M 289) 1 := ⟨gk_mem 8 104 rfl rfl, gk_mem 1 12 rfl rfl, ⟨by decide +kernel, by decide +kernel, by decide +kernel⟩, by decide +kernel⟩
set_option maxRecDepth 100000 in
theorem im_mo_switchOf : Cond.instanceMethod (gk_M 289).1 ∈ gk_TT := gk_mem 8 103 rfl rfl
set_option maxRecDepth 100000 in
theorem sl_mo_switchOf : Cond.selects (gk_M 289).1.cls (gk_M 289).1 (gk_M 289).1 ∈ gk_TT := gk_mem 0 144 rfl rfl
set_option maxRecDepth 100000 in
theorem jk_mo_sums : gk_jok (gk_M 290) 2 := ⟨gk_mem 8 96 rfl rfl, gk_mem 1 12 rfl rfl, ⟨by decide +kernel, by decide +kernel, by decide +kernel⟩, by decide +kernel⟩
set_option maxRecDepth 100000 in
theorem im_mo_sums : Cond.instanceMethod (gk_M 290).1 ∈ gk_TT := gk_mem 8 94 rfl rfl
set_option maxRecDepth 100000 in
theorem sl_mo_sums : Cond.selects (gk_M 290).1.cls (gk_M 290).1 (gk_M 290).1 ∈ gk_TT := gk_mem 8 95 rfl rfl
set_option maxRecDepth 100000 in
theorem jk_mo_sumOver : gk_jok (gk_M 291) 2 := ⟨gk_mem 8 120 rfl rfl, gk_mem 1 12 rfl rfl, ⟨by decide +kernel, by decide +kernel, by decide +kernel⟩, by decide +kernel⟩
set_option maxRecDepth 100000 in
theorem im_mo_sumOver : Cond.instanceMethod (gk_M 291).1 ∈ gk_TT := gk_mem 8 119 rfl rfl
set_option maxRecDepth 100000 in
theorem sl_mo_sumOver : Cond.selects (gk_M 291).1.cls (gk_M 291).1 (gk_M 291).1 ∈ gk_TT := gk_mem 0 147 rfl rfl
set_option maxRecDepth 100000 in
theorem jk_mo_buys : gk_jok (gk_M 292) 2 := ⟨gk_mem 8 112 rfl rfl, gk_mem 1 12 rfl rfl, ⟨by decide +kernel, by decide +kernel, by decide +kernel⟩, by decide +kernel⟩
set_option maxRecDepth 100000 in
theorem im_mo_buys : Cond.instanceMethod (gk_M 292).1 ∈ gk_TT := gk_mem 8 110 rfl rfl
set_option maxRecDepth 100000 in
theorem sl_mo_buys : Cond.selects (gk_M 292).1.cls (gk_M 292).1 (gk_M 292).1 ∈ gk_TT := gk_mem 8 111 rfl rfl
set_option maxRecDepth 100000 in
theorem jk_mo_findsWays : gk_jok (gk_M 293) 0 := ⟨gk_mem 8 128 rfl rfl, gk_mem 1 12 rfl rfl, ⟨by decide +kernel, by decide +kernel, by decide +kernel⟩, by decide +kernel⟩
set_option maxRecDepth 100000 in
theorem im_mo_findsWays : Cond.instanceMethod (gk_M 293).1 ∈ gk_TT := gk_mem 8 127 rfl rfl
set_option maxRecDepth 100000 in
theorem sl_mo_findsWays : Cond.selects (gk_M 293).1.cls (gk_M 293).1 (gk_M 293).1 ∈ gk_TT := gk_mem 0 148 rfl rfl
set_option maxRecDepth 100000 in
theorem jk_mo_leastTo : gk_jok (gk_M 294) 3 := ⟨gk_mem 8 132 rfl rfl, gk_mem 1 12 rfl rfl, ⟨by decide +kernel, by decide +kernel, by decide +kernel⟩, by decide +kernel⟩
set_option maxRecDepth 100000 in
theorem im_mo_leastTo : Cond.instanceMethod (gk_M 294).1 ∈ gk_TT := gk_mem 8 131 rfl rfl
set_option maxRecDepth 100000 in
theorem sl_mo_leastTo : Cond.selects (gk_M 294).1.cls (gk_M 294).1 (gk_M 294).1 ∈ gk_TT := gk_mem 0 149 rfl rfl
set_option maxRecDepth 100000 in
theorem jk_mo_tour : gk_jok (gk_M 295) 2 := ⟨gk_mem 8 124 rfl rfl, gk_mem 1 12 rfl rfl, ⟨by decide +kernel, by decide +kernel, by decide +kernel⟩, by decide +kernel⟩
set_option maxRecDepth 100000 in
theorem im_mo_tour : Cond.instanceMethod (gk_M 295).1 ∈ gk_TT := gk_mem 8 122 rfl rfl
set_option maxRecDepth 100000 in
theorem sl_mo_tour : Cond.selects (gk_M 295).1.cls (gk_M 295).1 (gk_M 295).1 ∈ gk_TT := gk_mem 8 123 rfl rfl
set_option maxRecDepth 100000 in
theorem jk_mo_vouchersOf : gk_jok (gk_M 296) 1 := ⟨gk_mem 8 140 rfl rfl, gk_mem 1 12 rfl rfl, ⟨by decide +kernel, by decide +kernel, by decide +kernel⟩, by decide +kernel⟩
set_option maxRecDepth 100000 in
theorem im_mo_vouchersOf : Cond.instanceMethod (gk_M 296).1 ∈ gk_TT := gk_mem 8 139 rfl rfl
set_option maxRecDepth 100000 in
theorem sl_mo_vouchersOf : Cond.selects (gk_M 296).1.cls (gk_M 296).1 (gk_M 296).1 ∈ gk_TT := gk_mem 0 150 rfl rfl
set_option maxRecDepth 100000 in
theorem jk_mo_vouched : gk_jok (gk_M 297) 1 := ⟨gk_mem 8 136 rfl rfl, gk_mem 1 12 rfl rfl, ⟨by decide +kernel, by decide +kernel, by decide +kernel⟩, by decide +kernel⟩
set_option maxRecDepth 100000 in
theorem im_mo_vouched : Cond.instanceMethod (gk_M 297).1 ∈ gk_TT := gk_mem 8 134 rfl rfl
set_option maxRecDepth 100000 in
theorem sl_mo_vouched : Cond.selects (gk_M 297).1.cls (gk_M 297).1 (gk_M 297).1 ∈ gk_TT := gk_mem 8 135 rfl rfl
set_option maxRecDepth 100000 in
theorem jk_mo_isLie : gk_jok (gk_M 298) 2 := ⟨gk_mem 8 148 rfl rfl, gk_mem 1 12 rfl rfl, ⟨by decide +kernel, by decide +kernel, by decide +kernel⟩, by decide +kernel⟩
set_option maxRecDepth 100000 in
theorem im_mo_isLie : Cond.instanceMethod (gk_M 298).1 ∈ gk_TT := gk_mem 8 147 rfl rfl
set_option maxRecDepth 100000 in
theorem sl_mo_isLie : Cond.selects (gk_M 298).1.cls (gk_M 298).1 (gk_M 298).1 ∈ gk_TT := gk_mem 0 151 rfl rfl
set_option maxRecDepth 100000 in
theorem jk_mo_lie : gk_jok (gk_M 299) 3 := ⟨gk_mem 8 144 rfl rfl, gk_mem 1 12 rfl rfl, ⟨by decide +kernel, by decide +kernel, by decide +kernel⟩, by decide +kernel⟩
set_option maxRecDepth 100000 in
theorem im_mo_lie : Cond.instanceMethod (gk_M 299).1 ∈ gk_TT := gk_mem 8 142 rfl rfl
set_option maxRecDepth 100000 in
theorem sl_mo_lie : Cond.selects (gk_M 299).1.cls (gk_M 299).1 (gk_M 299).1 ∈ gk_TT := gk_mem 8 143 rfl rfl
set_option maxRecDepth 100000 in
theorem jk_mo_feet : gk_jok (gk_M 300) 1 := ⟨gk_mem 8 152 rfl rfl, gk_mem 1 12 rfl rfl, ⟨by decide +kernel, by decide +kernel, by decide +kernel⟩, by decide +kernel⟩
set_option maxRecDepth 100000 in
theorem im_mo_feet : Cond.instanceMethod (gk_M 300).1 ∈ gk_TT := gk_mem 8 150 rfl rfl
set_option maxRecDepth 100000 in
theorem sl_mo_feet : Cond.selects (gk_M 300).1.cls (gk_M 300).1 (gk_M 300).1 ∈ gk_TT := gk_mem 8 151 rfl rfl
set_option maxRecDepth 100000 in
theorem jk_mo_game : gk_jok (gk_M 301) 1 := ⟨gk_mem 8 156 rfl rfl, gk_mem 1 12 rfl rfl, ⟨by decide +kernel, by decide +kernel, by decide +kernel⟩, by decide +kernel⟩
set_option maxRecDepth 100000 in
theorem im_mo_game : Cond.instanceMethod (gk_M 301).1 ∈ gk_TT := gk_mem 8 154 rfl rfl
set_option maxRecDepth 100000 in
theorem sl_mo_game : Cond.selects (gk_M 301).1.cls (gk_M 301).1 (gk_M 301).1 ∈ gk_TT := gk_mem 8 155 rfl rfl
set_option maxRecDepth 100000 in
theorem jk_mo_keeps : gk_jok (gk_M 302) 1 := ⟨gk_mem 8 164 rfl rfl, gk_mem 1 12 rfl rfl, ⟨by decide +kernel, by decide +kernel, by decide +kernel⟩, by decide +kernel⟩
set_option maxRecDepth 100000 in
theorem im_mo_keeps : Cond.instanceMethod (gk_M 302).1 ∈ gk_TT := gk_mem 8 163 rfl rfl
set_option maxRecDepth 100000 in
theorem sl_mo_keeps : Cond.selects (gk_M 302).1.cls (gk_M 302).1 (gk_M 302).1 ∈ gk_TT := gk_mem 0 152 rfl rfl
set_option maxRecDepth 100000 in
theorem jk_mo_keepsLaw : gk_jok (gk_M 303) 0 := ⟨gk_mem 8 172 rfl rfl, gk_mem 1 12 rfl rfl, ⟨by decide +kernel, by decide +kernel, by decide +kernel⟩, by decide +kernel⟩
set_option maxRecDepth 100000 in
theorem im_mo_keepsLaw : Cond.instanceMethod (gk_M 303).1 ∈ gk_TT := gk_mem 8 171 rfl rfl
set_option maxRecDepth 100000 in
theorem sl_mo_keepsLaw : Cond.selects (gk_M 303).1.cls (gk_M 303).1 (gk_M 303).1 ∈ gk_TT := gk_mem 0 154 rfl rfl
set_option maxRecDepth 100000 in
theorem jk_mo_keepsTold : gk_jok (gk_M 304) 0 := ⟨gk_mem 8 168 rfl rfl, gk_mem 1 12 rfl rfl, ⟨by decide +kernel, by decide +kernel, by decide +kernel⟩, by decide +kernel⟩
set_option maxRecDepth 100000 in
theorem im_mo_keepsTold : Cond.instanceMethod (gk_M 304).1 ∈ gk_TT := gk_mem 8 167 rfl rfl
set_option maxRecDepth 100000 in
theorem sl_mo_keepsTold : Cond.selects (gk_M 304).1.cls (gk_M 304).1 (gk_M 304).1 ∈ gk_TT := gk_mem 0 153 rfl rfl
set_option maxRecDepth 100000 in
theorem jk_mo_image : gk_jok (gk_M 305) 1 := ⟨gk_mem 8 160 rfl rfl, gk_mem 1 12 rfl rfl, ⟨by decide +kernel, by decide +kernel, by decide +kernel⟩, by decide +kernel⟩
set_option maxRecDepth 100000 in
theorem im_mo_image : Cond.instanceMethod (gk_M 305).1 ∈ gk_TT := gk_mem 8 158 rfl rfl
set_option maxRecDepth 100000 in
theorem sl_mo_image : Cond.selects (gk_M 305).1.cls (gk_M 305).1 (gk_M 305).1 ∈ gk_TT := gk_mem 8 159 rfl rfl
set_option maxRecDepth 100000 in
theorem jk_mo_look : gk_jok (gk_M 306) 1 := ⟨gk_mem 8 176 rfl rfl, gk_mem 1 12 rfl rfl, ⟨by decide +kernel, by decide +kernel, by decide +kernel⟩, by decide +kernel⟩
set_option maxRecDepth 100000 in
theorem im_mo_look : Cond.instanceMethod (gk_M 306).1 ∈ gk_TT := gk_mem 8 174 rfl rfl
set_option maxRecDepth 100000 in
theorem sl_mo_look : Cond.selects (gk_M 306).1.cls (gk_M 306).1 (gk_M 306).1 ∈ gk_TT := gk_mem 8 175 rfl rfl
set_option maxRecDepth 100000 in
theorem jk_jl_bitCount : gk_jok (gk_M 307) 1 := ⟨gk_mem 2 183 rfl rfl, gk_mem 1 14 rfl rfl, ⟨by decide +kernel, by decide +kernel, by decide +kernel⟩, by decide +kernel⟩
set_option maxRecDepth 100000 in
theorem st_jl_bitCount : Cond.static (gk_M 307).1 ∈ gk_TT := gk_mem 2 182 rfl rfl
set_option maxRecDepth 100000 in
theorem jk_js_length : gk_jok (gk_M 308) 0 := ⟨gk_mem 3 146 rfl rfl, gk_mem 1 17 rfl rfl, ⟨by decide +kernel, by decide +kernel, by decide +kernel⟩, by decide +kernel⟩
set_option maxRecDepth 100000 in
theorem im_js_length : Cond.instanceMethod (gk_M 308).1 ∈ gk_TT := gk_mem 3 144 rfl rfl
set_option maxRecDepth 100000 in
theorem sl_js_length : Cond.selects (gk_M 308).1.cls (gk_M 308).1 (gk_M 308).1 ∈ gk_TT := gk_mem 3 145 rfl rfl
set_option maxRecDepth 100000 in
theorem jk_js_charAt : gk_jok (gk_M 309) 1 := ⟨gk_mem 3 156 rfl rfl, gk_mem 1 17 rfl rfl, ⟨by decide +kernel, by decide +kernel, by decide +kernel⟩, by decide +kernel⟩
set_option maxRecDepth 100000 in
theorem im_js_charAt : Cond.instanceMethod (gk_M 309).1 ∈ gk_TT := gk_mem 3 154 rfl rfl
set_option maxRecDepth 100000 in
theorem sl_js_charAt : Cond.selects (gk_M 309).1.cls (gk_M 309).1 (gk_M 309).1 ∈ gk_TT := gk_mem 3 155 rfl rfl
set_option maxRecDepth 100000 in
theorem jk_js_indexOf : gk_jok (gk_M 310) 1 := ⟨gk_mem 3 207 rfl rfl, gk_mem 1 17 rfl rfl, ⟨by decide +kernel, by decide +kernel, by decide +kernel⟩, by decide +kernel⟩
set_option maxRecDepth 100000 in
theorem im_js_indexOf : Cond.instanceMethod (gk_M 310).1 ∈ gk_TT := gk_mem 3 205 rfl rfl
set_option maxRecDepth 100000 in
theorem sl_js_indexOf : Cond.selects (gk_M 310).1.cls (gk_M 310).1 (gk_M 310).1 ∈ gk_TT := gk_mem 3 206 rfl rfl
set_option maxRecDepth 100000 in
theorem jk_js_indexOf2 : gk_jok (gk_M 311) 2 := ⟨gk_mem 3 211 rfl rfl, gk_mem 1 17 rfl rfl, ⟨by decide +kernel, by decide +kernel, by decide +kernel⟩, by decide +kernel⟩
set_option maxRecDepth 100000 in
theorem im_js_indexOf2 : Cond.instanceMethod (gk_M 311).1 ∈ gk_TT := gk_mem 3 209 rfl rfl
set_option maxRecDepth 100000 in
theorem sl_js_indexOf2 : Cond.selects (gk_M 311).1.cls (gk_M 311).1 (gk_M 311).1 ∈ gk_TT := gk_mem 3 210 rfl rfl
set_option maxRecDepth 100000 in
theorem jk_js_coder : gk_jok (gk_M 312) 0 := ⟨gk_mem 3 150 rfl rfl, gk_mem 1 17 rfl rfl, ⟨by decide +kernel, by decide +kernel, by decide +kernel⟩, by decide +kernel⟩
set_option maxRecDepth 100000 in
theorem im_js_coder : Cond.instanceMethod (gk_M 312).1 ∈ gk_TT := gk_mem 3 148 rfl rfl
set_option maxRecDepth 100000 in
theorem sl_js_coder : Cond.selects (gk_M 312).1.cls (gk_M 312).1 (gk_M 312).1 ∈ gk_TT := gk_mem 3 149 rfl rfl
set_option maxRecDepth 100000 in
theorem jk_js_isLatin1 : gk_jok (gk_M 313) 0 := ⟨gk_mem 3 160 rfl rfl, gk_mem 1 17 rfl rfl, ⟨by decide +kernel, by decide +kernel, by decide +kernel⟩, by decide +kernel⟩
set_option maxRecDepth 100000 in
theorem im_js_isLatin1 : Cond.instanceMethod (gk_M 313).1 ∈ gk_TT := gk_mem 3 158 rfl rfl
set_option maxRecDepth 100000 in
theorem sl_js_isLatin1 : Cond.selects (gk_M 313).1.cls (gk_M 313).1 (gk_M 313).1 ∈ gk_TT := gk_mem 3 159 rfl rfl
set_option maxRecDepth 100000 in
theorem jk_js_checkIndex : gk_jok (gk_M 314) 2 := ⟨gk_mem 3 166 rfl rfl, gk_mem 1 17 rfl rfl, ⟨by decide +kernel, by decide +kernel, by decide +kernel⟩, by decide +kernel⟩
set_option maxRecDepth 100000 in
theorem st_js_checkIndex : Cond.static (gk_M 314).1 ∈ gk_TT := gk_mem 3 165 rfl rfl
set_option maxRecDepth 100000 in
theorem jk_jt_charAt : gk_jok (gk_M 315) 2 := ⟨gk_mem 3 163 rfl rfl, gk_mem 1 18 rfl rfl, ⟨by decide +kernel, by decide +kernel, by decide +kernel⟩, by decide +kernel⟩
set_option maxRecDepth 100000 in
theorem st_jt_charAt : Cond.static (gk_M 315).1 ∈ gk_TT := gk_mem 3 162 rfl rfl
set_option maxRecDepth 100000 in
theorem jk_jt_canEncode : gk_jok (gk_M 316) 1 := ⟨gk_mem 3 218 rfl rfl, gk_mem 1 18 rfl rfl, ⟨by decide +kernel, by decide +kernel, by decide +kernel⟩, by decide +kernel⟩
set_option maxRecDepth 100000 in
theorem st_jt_canEncode : Cond.static (gk_M 316).1 ∈ gk_TT := gk_mem 3 217 rfl rfl
set_option maxRecDepth 100000 in
theorem jk_jt_indexOf : gk_jok (gk_M 317) 4 := ⟨gk_mem 3 215 rfl rfl, gk_mem 1 18 rfl rfl, ⟨by decide +kernel, by decide +kernel, by decide +kernel⟩, by decide +kernel⟩
set_option maxRecDepth 100000 in
theorem st_jt_indexOf : Cond.static (gk_M 317).1 ∈ gk_TT := gk_mem 3 214 rfl rfl
set_option maxRecDepth 100000 in
theorem jk_jt_indexOfChar : gk_jok (gk_M 318) 4 := ⟨gk_mem 3 223 rfl rfl, gk_mem 1 18 rfl rfl, ⟨by decide +kernel, by decide +kernel, by decide +kernel⟩, by decide +kernel⟩
set_option maxRecDepth 100000 in
theorem st_jt_indexOfChar : Cond.static (gk_M 318).1 ∈ gk_TT := gk_mem 3 222 rfl rfl
set_option maxRecDepth 100000 in
theorem jk_ja_fill : gk_jok (gk_M 319) 2 := ⟨gk_mem 1 38 rfl rfl, gk_mem 1 3 rfl rfl, ⟨by decide +kernel, by decide +kernel, by decide +kernel⟩, by decide +kernel⟩
set_option maxRecDepth 100000 in
theorem st_ja_fill : Cond.static (gk_M 319).1 ∈ gk_TT := gk_mem 1 37 rfl rfl
set_option maxRecDepth 100000 in
theorem jk_jp_checkIndex : gk_jok (gk_M 320) 3 := ⟨gk_mem 3 171 rfl rfl, gk_mem 1 19 rfl rfl, ⟨by decide +kernel, by decide +kernel, by decide +kernel⟩, by decide +kernel⟩
set_option maxRecDepth 100000 in
theorem st_jp_checkIndex : Cond.static (gk_M 320).1 ∈ gk_TT := gk_mem 3 170 rfl rfl
