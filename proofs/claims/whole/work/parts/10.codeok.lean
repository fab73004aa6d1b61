/-! THE METHODS ARE WHAT THE BYTES SAY: the kernel reads them; words of links; by program (gen/code.py) -/
theorem uw_X0 : ∀ w ∈ u_ws RX0 TX0 4, w ∈ wsG := by
  intro w hw
  obtain ⟨k, hk, rfl⟩ := List.mem_map.mp hw
  have hk := List.mem_range.mp hk
  match k, hk with
  | 0, _ => exact wd_398
  | 1, _ => exact wd_400
  | 2, _ => exact wd_402
  | 3, _ => exact wd_404
theorem uw_X1 : ∀ w ∈ u_ws RX1 TX1 4, w ∈ wsG := by
  intro w hw
  obtain ⟨k, hk, rfl⟩ := List.mem_map.mp hw
  have hk := List.mem_range.mp hk
  match k, hk with
  | 0, _ => exact wd_378
  | 1, _ => exact wd_380
  | 2, _ => exact wd_382
  | 3, _ => exact wd_384
theorem uw_X2 : ∀ w ∈ u_ws RX2 TX2 12, w ∈ wsG := by
  intro w hw
  obtain ⟨k, hk, rfl⟩ := List.mem_map.mp hw
  have hk := List.mem_range.mp hk
  match k, hk with
  | 0, _ => exact wd_286
  | 1, _ => exact wd_288
  | 2, _ => exact wd_290
  | 3, _ => exact wd_292
  | 4, _ => exact wd_294
  | 5, _ => exact wd_296
  | 6, _ => exact wd_298
  | 7, _ => exact wd_300
  | 8, _ => exact wd_302
  | 9, _ => exact wd_304
  | 10, _ => exact wd_306
  | 11, _ => exact wd_308
theorem uw_X3 : ∀ w ∈ u_ws RX3 TX3 9, w ∈ wsG := by
  intro w hw
  obtain ⟨k, hk, rfl⟩ := List.mem_map.mp hw
  have hk := List.mem_range.mp hk
  match k, hk with
  | 0, _ => exact wd_190
  | 1, _ => exact wd_192
  | 2, _ => exact wd_194
  | 3, _ => exact wd_196
  | 4, _ => exact wd_198
  | 5, _ => exact wd_200
  | 6, _ => exact wd_202
  | 7, _ => exact wd_204
  | 8, _ => exact wd_206
theorem uw_X4 : ∀ w ∈ u_ws RX4 TX4 9, w ∈ wsG := by
  intro w hw
  obtain ⟨k, hk, rfl⟩ := List.mem_map.mp hw
  have hk := List.mem_range.mp hk
  match k, hk with
  | 0, _ => exact wd_933
  | 1, _ => exact wd_935
  | 2, _ => exact wd_937
  | 3, _ => exact wd_939
  | 4, _ => exact wd_941
  | 5, _ => exact wd_943
  | 6, _ => exact wd_945
  | 7, _ => exact wd_947
  | 8, _ => exact wd_949
theorem uw_X5 : ∀ w ∈ u_ws RX5 TX5 7, w ∈ wsG := by
  intro w hw
  obtain ⟨k, hk, rfl⟩ := List.mem_map.mp hw
  have hk := List.mem_range.mp hk
  match k, hk with
  | 0, _ => exact wd_221
  | 1, _ => exact wd_223
  | 2, _ => exact wd_225
  | 3, _ => exact wd_227
  | 4, _ => exact wd_229
  | 5, _ => exact wd_231
  | 6, _ => exact wd_233
theorem uw_X6 : ∀ w ∈ u_ws RX6 TX6 2, w ∈ wsG := by
  intro w hw
  obtain ⟨k, hk, rfl⟩ := List.mem_map.mp hw
  have hk := List.mem_range.mp hk
  match k, hk with
  | 0, _ => exact wd_128
  | 1, _ => exact wd_130
theorem uw_X7 : ∀ w ∈ u_ws RX7 TX7 4, w ∈ wsG := by
  intro w hw
  obtain ⟨k, hk, rfl⟩ := List.mem_map.mp hw
  have hk := List.mem_range.mp hk
  match k, hk with
  | 0, _ => exact wd_355
  | 1, _ => exact wd_357
  | 2, _ => exact wd_359
  | 3, _ => exact wd_361
theorem uw_X8 : ∀ w ∈ u_ws RX8 TX8 2, w ∈ wsG := by
  intro w hw
  obtain ⟨k, hk, rfl⟩ := List.mem_map.mp hw
  have hk := List.mem_range.mp hk
  match k, hk with
  | 0, _ => exact wd_150
  | 1, _ => exact wd_152
theorem uw_X9 : ∀ w ∈ u_ws RX9 TX9 6, w ∈ wsG := by
  intro w hw
  obtain ⟨k, hk, rfl⟩ := List.mem_map.mp hw
  have hk := List.mem_range.mp hk
  match k, hk with
  | 0, _ => exact wd_328
  | 1, _ => exact wd_330
  | 2, _ => exact wd_332
  | 3, _ => exact wd_334
  | 4, _ => exact wd_336
  | 5, _ => exact wd_338
theorem uw_X10 : ∀ w ∈ u_ws RX10 TX10 9, w ∈ wsG := by
  intro w hw
  obtain ⟨k, hk, rfl⟩ := List.mem_map.mp hw
  have hk := List.mem_range.mp hk
  match k, hk with
  | 0, _ => exact wd_416
  | 1, _ => exact wd_418
  | 2, _ => exact wd_420
  | 3, _ => exact wd_422
  | 4, _ => exact wd_424
  | 5, _ => exact wd_426
  | 6, _ => exact wd_428
  | 7, _ => exact wd_430
  | 8, _ => exact wd_432
theorem uw_X11 : ∀ w ∈ u_ws RX11 TX11 31, w ∈ wsG := by
  intro w hw
  obtain ⟨k, hk, rfl⟩ := List.mem_map.mp hw
  have hk := List.mem_range.mp hk
  match k, hk with
  | 0, _ => exact wd_1165
  | 1, _ => exact wd_1167
  | 2, _ => exact wd_1169
  | 3, _ => exact wd_1171
  | 4, _ => exact wd_1173
  | 5, _ => exact wd_1175
  | 6, _ => exact wd_1177
  | 7, _ => exact wd_1179
  | 8, _ => exact wd_1181
  | 9, _ => exact wd_1183
  | 10, _ => exact wd_1185
  | 11, _ => exact wd_1187
  | 12, _ => exact wd_1189
  | 13, _ => exact wd_1191
  | 14, _ => exact wd_1193
  | 15, _ => exact wd_1195
  | 16, _ => exact wd_1197
  | 17, _ => exact wd_1199
  | 18, _ => exact wd_1201
  | 19, _ => exact wd_1203
  | 20, _ => exact wd_1205
  | 21, _ => exact wd_1207
  | 22, _ => exact wd_1209
  | 23, _ => exact wd_1211
  | 24, _ => exact wd_1213
  | 25, _ => exact wd_1215
  | 26, _ => exact wd_1217
  | 27, _ => exact wd_1219
  | 28, _ => exact wd_1221
  | 29, _ => exact wd_1223
  | 30, _ => exact wd_1225
  | k + 31, h => exact absurd h (by omega)
theorem t_J_bitCount : MT[0]? = some m_J_bitCount := rfl
theorem t_J_fill : MT[1]? = some m_J_fill := rfl
theorem t_X10_sign : MT[2]? = some m_X10_sign := rfl
theorem t_X10_end : MT[3]? = some m_X10_end := rfl
theorem t_X10_land : MT[4]? = some m_X10_land := rfl
theorem t_X10_reach : MT[5]? = some m_X10_reach := rfl
theorem t_X10_service : MT[6]? = some m_X10_service := rfl
theorem t_X10_limit : MT[7]? = some m_X10_limit := rfl
theorem t_X10_shuts : MT[8]? = some m_X10_shuts := rfl
theorem t_X10_far : MT[9]? = some m_X10_far := rfl
theorem t_X10_reached : MT[10]? = some m_X10_reached := rfl
theorem t_X10_node : MT[11]? = some m_X10_node := rfl
theorem t_X10_engine : MT[12]? = some m_X10_engine := rfl
theorem t_X10_station : MT[13]? = some m_X10_station := rfl
theorem t_X10_call : MT[14]? = some m_X10_call := rfl
theorem t_X10_pair : MT[15]? = some m_X10_pair := rfl
theorem t_X10_worstPair : MT[16]? = some m_X10_worstPair := rfl
theorem t_X10_pass : MT[17]? = some m_X10_pass := rfl
theorem t_X10_seed : MT[18]? = some m_X10_seed := rfl
theorem t_X10_storms : MT[19]? = some m_X10_storms := rfl
theorem t_X10_cover : MT[20]? = some m_X10_cover := rfl
theorem t_X10_covers : MT[21]? = some m_X10_covers := rfl
theorem t_X10_share : MT[22]? = some m_X10_share := rfl
theorem t_X10_best : MT[23]? = some m_X10_best := rfl
theorem t_X10_nested : MT[24]? = some m_X10_nested := rfl
theorem t_X10_greedy : MT[25]? = some m_X10_greedy := rfl
theorem t_X10_dearest : MT[26]? = some m_X10_dearest := rfl
theorem t_X10_dearestRoad : MT[27]? = some m_X10_dearestRoad := rfl
theorem t_X10_least : MT[28]? = some m_X10_least := rfl
theorem t_X10_twice : MT[29]? = some m_X10_twice := rfl
theorem t_X10_spread : MT[30]? = some m_X10_spread := rfl
theorem t_X10_state : MT[31]? = some m_X10_state := rfl
theorem t_X10_worst : MT[32]? = some m_X10_worst := rfl
theorem t_X10_states : MT[33]? = some m_X10_states := rfl
theorem t_X10_expects : MT[34]? = some m_X10_expects := rfl
theorem t_X10_bestFor : MT[35]? = some m_X10_bestFor := rfl
theorem t_X10_regret : MT[36]? = some m_X10_regret := rfl
theorem t_X10_moves : MT[37]? = some m_X10_moves := rfl
theorem t_X10_up : MT[38]? = some m_X10_up := rfl
theorem t_X10_post : MT[39]? = some m_X10_post := rfl
theorem t_X10_swap : MT[40]? = some m_X10_swap := rfl
theorem t_X10_left : MT[41]? = some m_X10_left := rfl
theorem t_X10_needs : MT[42]? = some m_X10_needs := rfl
theorem t_X10_keeps : MT[43]? = some m_X10_keeps := rfl
theorem t_X10_back : MT[44]? = some m_X10_back := rfl
theorem t_X10_count : MT[45]? = some m_X10_count := rfl
theorem t_X10_isNode : MT[46]? = some m_X10_isNode := rfl
theorem t_X10_isStation : MT[47]? = some m_X10_isStation := rfl
theorem t_X10_isEngine : MT[48]? = some m_X10_isEngine := rfl
theorem t_X10_look : MT[49]? = some m_X10_look := rfl
theorem t_X10_coverNow : MT[50]? = some m_X10_coverNow := rfl
theorem t_X10_coverWithout : MT[51]? = some m_X10_coverWithout := rfl
theorem t_X10_greatestCover : MT[52]? = some m_X10_greatestCover := rfl
theorem t_X10_readyThatReach : MT[53]? = some m_X10_readyThatReach := rfl
theorem t_X10_statesOf : MT[54]? = some m_X10_statesOf := rfl
theorem t_X10_planned : MT[55]? = some m_X10_planned := rfl
theorem t_X10_quotientBits : MT[56]? = some m_X10_quotientBits := rfl
theorem t_X0_prepare : MT[57]? = some m_X0_prepare := rfl
theorem t_X0_expectedNow : MT[58]? = some m_X0_expectedNow := rfl
theorem t_X0_hitsOf : MT[59]? = some m_X0_hitsOf := rfl
theorem t_X0_expected : MT[60]? = some m_X0_expected := rfl
theorem t_X0_seekBest : MT[61]? = some m_X0_seekBest := rfl
theorem t_X0_nextRow : MT[62]? = some m_X0_nextRow := rfl
theorem t_X1_find : MT[63]? = some m_X1_find := rfl
theorem t_X1_tryBeside : MT[64]? = some m_X1_tryBeside := rfl
theorem t_X1_isLess : MT[65]? = some m_X1_isLess := rfl
theorem t_X2_begin : MT[66]? = some m_X2_begin := rfl
theorem t_X2_takeOver : MT[67]? = some m_X2_takeOver := rfl
theorem t_X2_nextMinute : MT[68]? = some m_X2_nextMinute := rfl
theorem t_X2_inMode : MT[69]? = some m_X2_inMode := rfl
theorem t_X2_postedAt : MT[70]? = some m_X2_postedAt := rfl
theorem t_X2_waitOf : MT[71]? = some m_X2_waitOf := rfl
theorem t_X2_goOut : MT[72]? = some m_X2_goOut := rfl
theorem t_X2_move : MT[73]? = some m_X2_move := rfl
theorem t_X2_remember : MT[74]? = some m_X2_remember := rfl
theorem t_X2_movedLately : MT[75]? = some m_X2_movedLately := rfl
theorem t_X2_waitForMove : MT[76]? = some m_X2_waitForMove := rfl
theorem t_X3_empty : MT[77]? = some m_X3_empty := rfl
theorem t_X3_takeOver : MT[78]? = some m_X3_takeOver := rfl
theorem t_X3_addRoad : MT[79]? = some m_X3_addRoad := rfl
theorem t_X3_roadOf : MT[80]? = some m_X3_roadOf := rfl
theorem t_X3_shutRoads : MT[81]? = some m_X3_shutRoads := rfl
theorem t_X3_measure : MT[82]? = some m_X3_measure := rfl
theorem t_X3_shorten : MT[83]? = some m_X3_shorten := rfl
theorem t_X3_wayOf : MT[84]? = some m_X3_wayOf := rfl
theorem t_X3_wayOfStations : MT[85]? = some m_X3_wayOfStations := rfl
theorem t_X3_placeOf : MT[86]? = some m_X3_placeOf := rfl
theorem t_X3_isStationAt : MT[87]? = some m_X3_isStationAt := rfl
theorem t_X3_nearestStation : MT[88]? = some m_X3_nearestStation := rfl
theorem t_X3_weigh : MT[89]? = some m_X3_weigh := rfl
theorem t_X4_prepare : MT[90]? = some m_X4_prepare := rfl
theorem t_X4_gather : MT[91]? = some m_X4_gather := rfl
theorem t_X4_fill : MT[92]? = some m_X4_fill := rfl
theorem t_X4_worthOf : MT[93]? = some m_X4_worthOf := rfl
theorem t_X4_indexOf : MT[94]? = some m_X4_indexOf := rfl
theorem t_X4_wayTo : MT[95]? = some m_X4_wayTo := rfl
theorem t_X4_choose : MT[96]? = some m_X4_choose := rfl
theorem t_X4_firstBest : MT[97]? = some m_X4_firstBest := rfl
theorem t_X5_read : MT[98]? = some m_X5_read := rfl
theorem t_X5_readLine : MT[99]? = some m_X5_readLine := rfl
theorem t_X5_readRoad : MT[100]? = some m_X5_readRoad := rfl
theorem t_X5_readWeight : MT[101]? = some m_X5_readWeight := rfl
theorem t_X5_readStations : MT[102]? = some m_X5_readStations := rfl
theorem t_X5_readEngines : MT[103]? = some m_X5_readEngines := rfl
theorem t_X5_isCommaNext : MT[104]? = some m_X5_isCommaNext := rfl
theorem t_X5_isDigitNext : MT[105]? = some m_X5_isDigitNext := rfl
theorem t_X5_take : MT[106]? = some m_X5_take := rfl
theorem t_X5_takeNumber : MT[107]? = some m_X5_takeNumber := rfl
theorem t_X5_refuse : MT[108]? = some m_X5_refuse := rfl
theorem t_X6_clear : MT[109]? = some m_X6_clear := rfl
theorem t_X6_add : MT[110]? = some m_X6_add := rfl
theorem t_X6_tell : MT[111]? = some m_X6_tell := rfl
theorem t_X6_tell_ : MT[112]? = some m_X6_tell_ := rfl
theorem t_X7_look : MT[113]? = some m_X7_look := rfl
theorem t_X7_putOne : MT[114]? = some m_X7_putOne := rfl
theorem t_X7_putEngines : MT[115]? = some m_X7_putEngines := rfl
theorem t_X7_putStations : MT[116]? = some m_X7_putStations := rfl
theorem t_X7_covered : MT[117]? = some m_X7_covered := rfl
theorem t_X7_doubled : MT[118]? = some m_X7_doubled := rfl
theorem t_X7_coverOf : MT[119]? = some m_X7_coverOf := rfl
theorem t_X7_bestStations : MT[120]? = some m_X7_bestStations := rfl
theorem t_X7_bestBeside : MT[121]? = some m_X7_bestBeside := rfl
theorem t_X8_append : MT[122]? = some m_X8_append := rfl
theorem t_X8_cutTo : MT[123]? = some m_X8_cutTo := rfl
theorem t_X8_signAt : MT[124]? = some m_X8_signAt := rfl
theorem t_X9_takeOver : MT[125]? = some m_X9_takeOver := rfl
theorem t_X9_draw : MT[126]? = some m_X9_draw := rfl
theorem t_X9_mayMove : MT[127]? = some m_X9_mayMove := rfl
theorem t_X9_readyWay : MT[128]? = some m_X9_readyWay := rfl
theorem t_X9_whoGoes : MT[129]? = some m_X9_whoGoes := rfl
theorem t_X9_nearestWay : MT[130]? = some m_X9_nearestWay := rfl
theorem t_X9_send : MT[131]? = some m_X9_send := rfl
theorem t_X9_callSomewhere : MT[132]? = some m_X9_callSomewhere := rfl
theorem t_X11_thrown : MT[133]? = some m_X11_thrown := rfl
theorem t_X11_in : MT[134]? = some m_X11_in := rfl
theorem t_X11_lost : MT[135]? = some m_X11_lost := rfl
theorem t_X11_tell : MT[136]? = some m_X11_tell := rfl
theorem t_X11_ones : MT[137]? = some m_X11_ones := rfl
theorem t_X11_sign : MT[138]? = some m_X11_sign := rfl
theorem t_X11_end : MT[139]? = some m_X11_end := rfl
theorem t_X11_isNode : MT[140]? = some m_X11_isNode := rfl
theorem t_X11_isStation : MT[141]? = some m_X11_isStation := rfl
theorem t_X11_isEngine : MT[142]? = some m_X11_isEngine := rfl
theorem t_X11_sees : MT[143]? = some m_X11_sees := rfl
theorem t_X11_fault : MT[144]? = some m_X11_fault := rfl
theorem t_X11_expect : MT[145]? = some m_X11_expect := rfl
theorem t_X11_number : MT[146]? = some m_X11_number := rfl
theorem t_X11_readsRoad : MT[147]? = some m_X11_readsRoad := rfl
theorem t_X11_readsWeight : MT[148]? = some m_X11_readsWeight := rfl
theorem t_X11_isToldStation : MT[149]? = some m_X11_isToldStation := rfl
theorem t_X11_readsStations : MT[150]? = some m_X11_readsStations := rfl
theorem t_X11_readsEngines : MT[151]? = some m_X11_readsEngines := rfl
theorem t_X11_readsLine : MT[152]? = some m_X11_readsLine := rfl
theorem t_X11_land : MT[153]? = some m_X11_land := rfl
theorem t_X11_sets : MT[154]? = some m_X11_sets := rfl
theorem t_X11_reach : MT[155]? = some m_X11_reach := rfl
theorem t_X11_service : MT[156]? = some m_X11_service := rfl
theorem t_X11_limit : MT[157]? = some m_X11_limit := rfl
theorem t_X11_isOpen : MT[158]? = some m_X11_isOpen := rfl
theorem t_X11_laysFar : MT[159]? = some m_X11_laysFar := rfl
theorem t_X11_farOf : MT[160]? = some m_X11_farOf := rfl
theorem t_X11_shutMany : MT[161]? = some m_X11_shutMany := rfl
theorem t_X11_setsShut : MT[162]? = some m_X11_setsShut := rfl
theorem t_X11_shuts : MT[163]? = some m_X11_shuts := rfl
theorem t_X11_far : MT[164]? = some m_X11_far := rfl
theorem t_X11_lays : MT[165]? = some m_X11_lays := rfl
theorem t_X11_weightOf : MT[166]? = some m_X11_weightOf := rfl
theorem t_X11_isReady : MT[167]? = some m_X11_isReady := rfl
theorem t_X11_reached : MT[168]? = some m_X11_reached := rfl
theorem t_X11_readyFor : MT[169]? = some m_X11_readyFor := rfl
theorem t_X11_wayOf : MT[170]? = some m_X11_wayOf := rfl
theorem t_X11_nearestStation : MT[171]? = some m_X11_nearestStation := rfl
theorem t_X11_goer : MT[172]? = some m_X11_goer := rfl
theorem t_X11_node : MT[173]? = some m_X11_node := rfl
theorem t_X11_engine : MT[174]? = some m_X11_engine := rfl
theorem t_X11_station : MT[175]? = some m_X11_station := rfl
theorem t_X11_calls : MT[176]? = some m_X11_calls := rfl
theorem t_X11_call : MT[177]? = some m_X11_call := rfl
theorem t_X11_canGo : MT[178]? = some m_X11_canGo := rfl
theorem t_X11_pairOf : MT[179]? = some m_X11_pairOf := rfl
theorem t_X11_pair : MT[180]? = some m_X11_pair := rfl
theorem t_X11_worstPair : MT[181]? = some m_X11_worstPair := rfl
theorem t_X11_passesOne : MT[182]? = some m_X11_passesOne := rfl
theorem t_X11_pass : MT[183]? = some m_X11_pass := rfl
theorem t_X11_seed : MT[184]? = some m_X11_seed := rfl
theorem t_X11_draw : MT[185]? = some m_X11_draw := rfl
theorem t_X11_allWeights : MT[186]? = some m_X11_allWeights := rfl
theorem t_X11_nodeAt : MT[187]? = some m_X11_nodeAt := rfl
theorem t_X11_storms : MT[188]? = some m_X11_storms := rfl
theorem t_X11_reachedNow : MT[189]? = some m_X11_reachedNow := rfl
theorem t_X11_twiceNow : MT[190]? = some m_X11_twiceNow := rfl
theorem t_X11_cover : MT[191]? = some m_X11_cover := rfl
theorem t_X11_reachedBy : MT[192]? = some m_X11_reachedBy := rfl
theorem t_X11_twiceBy : MT[193]? = some m_X11_twiceBy := rfl
theorem t_X11_isSet : MT[194]? = some m_X11_isSet := rfl
theorem t_X11_covers : MT[195]? = some m_X11_covers := rfl
theorem t_X11_bestSet : MT[196]? = some m_X11_bestSet := rfl
theorem t_X11_best : MT[197]? = some m_X11_best := rfl
theorem t_X11_twice : MT[198]? = some m_X11_twice := rfl
theorem t_X11_least : MT[199]? = some m_X11_least := rfl
theorem t_X11_spread : MT[200]? = some m_X11_spread := rfl
theorem t_X11_nested : MT[201]? = some m_X11_nested := rfl
theorem t_X11_greedy : MT[202]? = some m_X11_greedy := rfl
theorem t_X11_coverBut : MT[203]? = some m_X11_coverBut := rfl
theorem t_X11_dearest : MT[204]? = some m_X11_dearest := rfl
theorem t_X11_dearestRoad : MT[205]? = some m_X11_dearestRoad := rfl
theorem t_X11_laysState : MT[206]? = some m_X11_laysState := rfl
theorem t_X11_stateCover : MT[207]? = some m_X11_stateCover := rfl
theorem t_X11_state : MT[208]? = some m_X11_state := rfl
theorem t_X11_worst : MT[209]? = some m_X11_worst := rfl
theorem t_X11_states : MT[210]? = some m_X11_states := rfl
theorem t_X11_laysSure : MT[211]? = some m_X11_laysSure := rfl
theorem t_X11_expectedNow : MT[212]? = some m_X11_expectedNow := rfl
theorem t_X11_expects : MT[213]? = some m_X11_expects := rfl
theorem t_X11_readyMany : MT[214]? = some m_X11_readyMany := rfl
theorem t_X11_expectedTried : MT[215]? = some m_X11_expectedTried := rfl
theorem t_X11_risesOn : MT[216]? = some m_X11_risesOn := rfl
theorem t_X11_bestFor : MT[217]? = some m_X11_bestFor := rfl
theorem t_X11_greatestCover : MT[218]? = some m_X11_greatestCover := rfl
theorem t_X11_regret : MT[219]? = some m_X11_regret := rfl
theorem t_X11_weighs : MT[220]? = some m_X11_weighs := rfl
theorem t_X11_tries : MT[221]? = some m_X11_tries := rfl
theorem t_X11_laysMoves : MT[222]? = some m_X11_laysMoves := rfl
theorem t_X11_moves : MT[223]? = some m_X11_moves := rfl
theorem t_X11_begunSince : MT[224]? = some m_X11_begunSince := rfl
theorem t_X11_mayMove : MT[225]? = some m_X11_mayMove := rfl
theorem t_X11_sends : MT[226]? = some m_X11_sends := rfl
theorem t_X11_up : MT[227]? = some m_X11_up := rfl
theorem t_X11_post : MT[228]? = some m_X11_post := rfl
theorem t_X11_swap : MT[229]? = some m_X11_swap := rfl
theorem t_X11_left : MT[230]? = some m_X11_left := rfl
theorem t_X11_needs : MT[231]? = some m_X11_needs := rfl
theorem t_X11_keeps : MT[232]? = some m_X11_keeps := rfl
theorem t_X11_back : MT[233]? = some m_X11_back := rfl
theorem t_X11_inState : MT[234]? = some m_X11_inState := rfl
theorem t_X11_count : MT[235]? = some m_X11_count := rfl
theorem t_X11_row : MT[236]? = some m_X11_row := rfl
def p_ewl (mt : List pCd) (own : String) : List pEn → Prop
  | [] => True
  | e :: l => p_ew mt own e ∧ p_ewl mt own l
theorem p_ewl_all {mt : List pCd} {own : String} : ∀ {l : List pEn}, p_ewl mt own l → ∀ e ∈ l, p_ew mt own e
  | [], _, _, h => by cases h
  | _ :: _, h, e, he => by
    rcases List.mem_cons.mp he with rfl | h2
    · exact h.1
    · exact p_ewl_all h.2 e h2
theorem p_mok_of {mt : List pCd} {cd : pCd} (h1 : plainName cd.1.cls = true) (h2 : cd.2.2.2.2.all (p_eb cd.2.1 cd.2.2.1) = true) (h3 : p_ewl mt cd.1.cls cd.2.2.2.2) : p_mok mt cd := ⟨h1, fun e he => ⟨List.all_eq_true.mp h2 e he, p_ewl_all h3 e he⟩⟩
theorem q_J_bitCount : p_mok MT m_J_bitCount := p_mok_of (by decide +kernel) (by decide +kernel) ⟨trivial, trivial, trivial, trivial, wd_784, trivial, trivial, trivial, trivial, wd_785, trivial, trivial, trivial, trivial, wd_785, trivial, trivial, trivial, trivial, trivial, trivial, trivial, trivial, wd_786, trivial, trivial, trivial, trivial, trivial, trivial, trivial, trivial, trivial, trivial, trivial, trivial, trivial, trivial, trivial, trivial, trivial, trivial, trivial⟩
theorem q_J_fill : p_mok MT m_J_fill := p_mok_of (by decide +kernel) (by decide +kernel) ⟨trivial, trivial, trivial, trivial, trivial, trivial, trivial, trivial, trivial, trivial, trivial, trivial, trivial, trivial, trivial, trivial⟩
theorem fr_X10_19 : p_fr RX10 19 10 1 := ⟨RX10, TX10, 9, rfl, uw_X10, by decide, wd_408⟩
theorem fr_X10_62 : p_fr RX10 62 5 0 := ⟨RX5, TX5, 7, rfl, uw_X5, by decide, wd_211⟩
theorem vo_X8_append : VOk m_X8_append.1 m_X8_append.2.1 m_X8_append.2.2.1 m_X8_append.2.2.2.1 1 8 := ⟨⟨_, _, rfl⟩, ⟨wd_440, wd_441, wd_91, wd_442⟩, ⟨by decide, by decide, by decide +kernel⟩⟩
theorem cv_X10_66 : p_cv MT RX10 66 122 8 1 := ⟨m_X8_append, t_X8_append, vo_X8_append, wd_439, by decide⟩
theorem q_X10_sign : p_mok MT m_X10_sign := p_mok_of (by decide +kernel) (by decide +kernel) ⟨trivial, fr_X10_19, fr_X10_62, trivial, cv_X10_66, trivial, trivial⟩
theorem vo_X8_cutTo : VOk m_X8_cutTo.1 m_X8_cutTo.2.1 m_X8_cutTo.2.2.1 m_X8_cutTo.2.2.2.1 1 8 := ⟨⟨_, _, rfl⟩, ⟨wd_448, wd_449, wd_91, wd_450⟩, ⟨by decide, by decide, by decide +kernel⟩⟩
theorem cv_X10_72 : p_cv MT RX10 72 123 8 1 := ⟨m_X8_cutTo, t_X8_cutTo, vo_X8_cutTo, wd_447, by decide⟩
theorem q_X10_end : p_mok MT m_X10_end := p_mok_of (by decide +kernel) (by decide +kernel) ⟨trivial, fr_X10_19, fr_X10_62, trivial, cv_X10_72, trivial, trivial⟩
theorem vo_X5_read : VOk m_X5_read.1 m_X5_read.2.1 m_X5_read.2.2.1 m_X5_read.2.2.2.1 0 5 := ⟨⟨_, _, rfl⟩, ⟨wd_456, wd_457, wd_90, wd_458⟩, ⟨by decide, by decide, by decide +kernel⟩⟩
theorem cv_X10_76 : p_cv MT RX10 76 98 5 0 := ⟨m_X5_read, t_X5_read, vo_X5_read, wd_455, by decide⟩
theorem fr_X10_26 : p_fr RX10 26 10 2 := ⟨RX10, TX10, 9, rfl, uw_X10, by decide, wd_409⟩
theorem fr_X10_80 : p_fr RX10 80 9 0 := ⟨RX9, TX9, 6, rfl, uw_X9, by decide, wd_314⟩
theorem fr_X10_84 : p_fr RX10 84 5 1 := ⟨RX5, TX5, 7, rfl, uw_X5, by decide, wd_213⟩
theorem vo_X3_takeOver : VOk m_X3_takeOver.1 m_X3_takeOver.2.1 m_X3_takeOver.2.2.1 m_X3_takeOver.2.2.2.1 1 3 := ⟨⟨_, _, rfl⟩, ⟨wd_536, wd_537, wd_92, wd_538⟩, ⟨by decide, by decide, by decide +kernel⟩⟩
theorem cv_X10_87 : p_cv MT RX10 87 78 3 1 := ⟨m_X3_takeOver, t_X3_takeOver, vo_X3_takeOver, wd_535, by decide⟩
theorem fr_X10_93 : p_fr RX10 93 9 1 := ⟨RX9, TX9, 6, rfl, uw_X9, by decide, wd_319⟩
theorem fr_X10_97 : p_fr RX10 97 5 2 := ⟨RX5, TX5, 7, rfl, uw_X5, by decide, wd_215⟩
theorem fr_X10_101 : p_fr RX10 101 5 3 := ⟨RX5, TX5, 7, rfl, uw_X5, by decide, wd_217⟩
theorem vo_X2_begin : VOk m_X2_begin.1 m_X2_begin.2.1 m_X2_begin.2.2.1 m_X2_begin.2.2.2.1 2 2 := ⟨⟨_, _, rfl⟩, ⟨wd_543, wd_544, wd_95, wd_545⟩, ⟨by decide, by decide, by decide +kernel⟩⟩
theorem cv_X10_105 : p_cv MT RX10 105 66 2 2 := ⟨m_X2_begin, t_X2_begin, vo_X2_begin, wd_542, by decide⟩
theorem fs_X10_58 : p_fs RX10 58 10 8 1 := ⟨RX10, TX10, 9, tyX10, rfl, uw_X10, by decide, wd_415, tyX10_ok, nmX10, rfl, rfl⟩
theorem q_X10_land : p_mok MT m_X10_land := p_mok_of (by decide +kernel) (by decide +kernel) ⟨trivial, fr_X10_19, cv_X10_76, trivial, trivial, fr_X10_19, fr_X10_62, trivial, cv_X10_72, trivial, trivial, trivial, trivial, trivial, trivial, fr_X10_26, fr_X10_80, trivial, fr_X10_19, fr_X10_84, cv_X10_87, trivial, fr_X10_26, fr_X10_93, trivial, fr_X10_19, fr_X10_97, trivial, fr_X10_19, fr_X10_101, cv_X10_105, trivial, trivial, fs_X10_58, trivial, trivial, trivial⟩
theorem fr_X10_111 : p_fr RX10 111 9 2 := ⟨RX9, TX9, 6, rfl, uw_X9, by decide, wd_321⟩
theorem fs_X10_111 : p_fs RX10 111 9 2 0 := ⟨RX9, TX9, 6, tyX9, rfl, uw_X9, by decide, wd_321, tyX9_ok, nmX9, rfl, rfl⟩
theorem q_X10_reach : p_mok MT m_X10_reach := p_mok_of (by decide +kernel) (by decide +kernel) ⟨trivial, trivial, trivial, trivial, trivial, trivial, trivial, trivial, trivial, fr_X10_26, fr_X10_111, trivial, trivial, fr_X10_26, trivial, fs_X10_111, trivial, trivial, trivial⟩
theorem fr_X10_114 : p_fr RX10 114 9 3 := ⟨RX9, TX9, 6, rfl, uw_X9, by decide, wd_323⟩
theorem fs_X10_114 : p_fs RX10 114 9 3 0 := ⟨RX9, TX9, 6, tyX9, rfl, uw_X9, by decide, wd_323, tyX9_ok, nmX9, rfl, rfl⟩
theorem q_X10_service : p_mok MT m_X10_service := p_mok_of (by decide +kernel) (by decide +kernel) ⟨trivial, trivial, trivial, trivial, trivial, trivial, trivial, trivial, trivial, fr_X10_26, fr_X10_114, trivial, trivial, fr_X10_26, trivial, fs_X10_114, trivial, trivial, trivial⟩
theorem fr_X10_117 : p_fr RX10 117 9 4 := ⟨RX9, TX9, 6, rfl, uw_X9, by decide, wd_325⟩
theorem fs_X10_117 : p_fs RX10 117 9 4 0 := ⟨RX9, TX9, 6, tyX9, rfl, uw_X9, by decide, wd_325, tyX9_ok, nmX9, rfl, rfl⟩
theorem q_X10_limit : p_mok MT m_X10_limit := p_mok_of (by decide +kernel) (by decide +kernel) ⟨trivial, trivial, trivial, trivial, trivial, trivial, trivial, trivial, fr_X10_26, fr_X10_117, trivial, trivial, fr_X10_26, trivial, fs_X10_117, trivial, trivial, trivial⟩
theorem vo_X10_isNode : SOk m_X10_isNode.1 m_X10_isNode.2.1 m_X10_isNode.2.2.1 m_X10_isNode.2.2.2.1 1 := ⟨⟨wd_510, wd_88, wd_511⟩, ⟨by decide, by decide, by decide +kernel⟩⟩
theorem cs_X10_120 : p_cs MT RX10 120 46 1 1 := ⟨m_X10_isNode, t_X10_isNode, vo_X10_isNode, wd_564, by decide⟩
theorem vo_X3_roadOf : VOk m_X3_roadOf.1 m_X3_roadOf.2.1 m_X3_roadOf.2.2.1 m_X3_roadOf.2.2.2.1 2 3 := ⟨⟨_, _, rfl⟩, ⟨wd_492, wd_493, wd_92, wd_494⟩, ⟨by decide, by decide, by decide +kernel⟩⟩
theorem cv_X10_123 : p_cv MT RX10 123 80 3 2 := ⟨m_X3_roadOf, t_X3_roadOf, vo_X3_roadOf, wd_565, by decide⟩
theorem fr_X10_127 : p_fr RX10 127 3 4 := ⟨RX3, TX3, 9, rfl, uw_X3, by decide, wd_176⟩
theorem fr_X10_131 : p_fr RX10 131 3 5 := ⟨RX3, TX3, 9, rfl, uw_X3, by decide, wd_179⟩
theorem vo_X3_measure : VOk m_X3_measure.1 m_X3_measure.2.1 m_X3_measure.2.2.1 m_X3_measure.2.2.2.1 2 3 := ⟨⟨_, _, rfl⟩, ⟨wd_529, wd_530, wd_92, wd_531⟩, ⟨by decide, by decide, by decide +kernel⟩⟩
theorem cv_X10_134 : p_cv MT RX10 134 82 3 2 := ⟨m_X3_measure, t_X3_measure, vo_X3_measure, wd_566, by decide⟩
theorem vo_X3_shutRoads : VOk m_X3_shutRoads.1 m_X3_shutRoads.2.1 m_X3_shutRoads.2.2.1 m_X3_shutRoads.2.2.2.1 0 3 := ⟨⟨_, _, rfl⟩, ⟨wd_568, wd_569, wd_92, wd_570⟩, ⟨by decide, by decide, by decide +kernel⟩⟩
theorem cv_X10_137 : p_cv MT RX10 137 81 3 0 := ⟨m_X3_shutRoads, t_X3_shutRoads, vo_X3_shutRoads, wd_567, by decide⟩
theorem q_X10_shuts : p_mok MT m_X10_shuts := p_mok_of (by decide +kernel) (by decide +kernel) ⟨trivial, cs_X10_120, trivial, trivial, cs_X10_120, trivial, trivial, trivial, trivial, fr_X10_26, fr_X10_80, trivial, trivial, cv_X10_123, trivial, trivial, trivial, trivial, trivial, trivial, trivial, fr_X10_26, fr_X10_80, fr_X10_127, trivial, trivial, trivial, trivial, trivial, trivial, trivial, fr_X10_26, fr_X10_80, fr_X10_127, trivial, trivial, trivial, trivial, fr_X10_26, fr_X10_80, trivial, fr_X10_26, fr_X10_80, fr_X10_131, trivial, cv_X10_134, trivial, fr_X10_26, fr_X10_80, cv_X10_137, trivial, trivial⟩
theorem vo_X3_wayOf : VOk m_X3_wayOf.1 m_X3_wayOf.2.1 m_X3_wayOf.2.2.1 m_X3_wayOf.2.2.2.1 2 3 := ⟨⟨_, _, rfl⟩, ⟨wd_576, wd_577, wd_92, wd_578⟩, ⟨by decide, by decide, by decide +kernel⟩⟩
theorem cv_X10_140 : p_cv MT RX10 140 84 3 2 := ⟨m_X3_wayOf, t_X3_wayOf, vo_X3_wayOf, wd_575, by decide⟩
theorem q_X10_far : p_mok MT m_X10_far := p_mok_of (by decide +kernel) (by decide +kernel) ⟨trivial, cs_X10_120, trivial, trivial, cs_X10_120, trivial, trivial, trivial, trivial, fr_X10_26, fr_X10_80, trivial, trivial, cv_X10_140, trivial, trivial⟩
theorem vo_X10_isStation : VOk m_X10_isStation.1 m_X10_isStation.2.1 m_X10_isStation.2.2.1 m_X10_isStation.2.2.2.1 1 10 := ⟨⟨_, _, rfl⟩, ⟨wd_586, wd_10, wd_88, wd_587⟩, ⟨by decide, by decide, by decide +kernel⟩⟩
theorem cv_X10_143 : p_cv MT RX10 143 47 10 1 := ⟨m_X10_isStation, t_X10_isStation, vo_X10_isStation, wd_584, by decide⟩
theorem vo_X10_look : VOk m_X10_look.1 m_X10_look.2.1 m_X10_look.2.2.1 m_X10_look.2.2.2.1 0 10 := ⟨⟨_, _, rfl⟩, ⟨wd_590, wd_11, wd_88, wd_591⟩, ⟨by decide, by decide, by decide +kernel⟩⟩
theorem cv_X10_146 : p_cv MT RX10 146 49 10 0 := ⟨m_X10_look, t_X10_look, vo_X10_look, wd_588, by decide⟩
theorem fr_X10_36 : p_fr RX10 36 10 4 := ⟨RX10, TX10, 9, rfl, uw_X10, by decide, wd_411⟩
theorem fr_X10_149 : p_fr RX10 149 7 0 := ⟨RX7, TX7, 4, rfl, uw_X7, by decide, wd_349⟩
theorem fr_X10_10 : p_fr RX10 10 10 0 := ⟨RX10, TX10, 9, rfl, uw_X10, by decide, wd_407⟩
theorem vo_X3_weigh : VOk m_X3_weigh.1 m_X3_weigh.2.1 m_X3_weigh.2.2.1 m_X3_weigh.2.2.2.1 1 3 := ⟨⟨_, _, rfl⟩, ⟨wd_601, wd_602, wd_92, wd_603⟩, ⟨by decide, by decide, by decide +kernel⟩⟩
theorem cv_X10_152 : p_cv MT RX10 152 89 3 1 := ⟨m_X3_weigh, t_X3_weigh, vo_X3_weigh, wd_600, by decide⟩
theorem vo_X6_tell : VOk m_X6_tell.1 m_X6_tell.2.1 m_X6_tell.2.2.1 m_X6_tell.2.2.2.1 1 6 := ⟨⟨_, _, rfl⟩, ⟨wd_605, wd_606, wd_89, wd_607⟩, ⟨by decide, by decide, by decide +kernel⟩⟩
theorem cv_X10_155 : p_cv MT RX10 155 111 6 1 := ⟨m_X6_tell, t_X6_tell, vo_X6_tell, wd_604, by decide⟩
theorem q_X10_reached : p_mok MT m_X10_reached := p_mok_of (by decide +kernel) (by decide +kernel) ⟨trivial, trivial, cv_X10_143, trivial, trivial, trivial, trivial, cv_X10_146, trivial, fr_X10_36, fr_X10_149, trivial, trivial, trivial, trivial, fr_X10_10, trivial, fr_X10_26, fr_X10_80, trivial, cv_X10_152, trivial, cv_X10_155, trivial, trivial, trivial⟩
theorem fr_X10_159 : p_fr RX10 159 3 0 := ⟨RX3, TX3, 9, rfl, uw_X3, by decide, wd_169⟩
theorem vo_X10_readyThatReach : VOk m_X10_readyThatReach.1 m_X10_readyThatReach.2.1 m_X10_readyThatReach.2.2.1 m_X10_readyThatReach.2.2.2.1 1 10 := ⟨⟨_, _, rfl⟩, ⟨wd_622, wd_12, wd_88, wd_623⟩, ⟨by decide, by decide, by decide +kernel⟩⟩
theorem cv_X10_162 : p_cv MT RX10 162 53 10 1 := ⟨m_X10_readyThatReach, t_X10_readyThatReach, vo_X10_readyThatReach, wd_620, by decide⟩
theorem vo_X3_nearestStation : VOk m_X3_nearestStation.1 m_X3_nearestStation.2.1 m_X3_nearestStation.2.2.1 m_X3_nearestStation.2.2.2.1 1 3 := ⟨⟨_, _, rfl⟩, ⟨wd_631, wd_632, wd_92, wd_633⟩, ⟨by decide, by decide, by decide +kernel⟩⟩
theorem cv_X10_165 : p_cv MT RX10 165 88 3 1 := ⟨m_X3_nearestStation, t_X3_nearestStation, vo_X3_nearestStation, wd_630, by decide⟩
theorem vo_X9_whoGoes : VOk m_X9_whoGoes.1 m_X9_whoGoes.2.1 m_X9_whoGoes.2.2.1 m_X9_whoGoes.2.2.2.1 1 9 := ⟨⟨_, _, rfl⟩, ⟨wd_636, wd_637, wd_94, wd_638⟩, ⟨by decide, by decide, by decide +kernel⟩⟩
theorem cv_X10_168 : p_cv MT RX10 168 129 9 1 := ⟨m_X9_whoGoes, t_X9_whoGoes, vo_X9_whoGoes, wd_635, by decide⟩
theorem q_X10_node : p_mok MT m_X10_node := p_mok_of (by decide +kernel) (by decide +kernel) ⟨trivial, cs_X10_120, trivial, trivial, trivial, trivial, trivial, trivial, fr_X10_26, fr_X10_80, fr_X10_159, trivial, trivial, trivial, trivial, trivial, cv_X10_162, trivial, trivial, fr_X10_26, fr_X10_80, trivial, cv_X10_165, trivial, trivial, fr_X10_26, trivial, cv_X10_168, trivial, trivial, trivial, trivial⟩
theorem vo_X10_isEngine : VOk m_X10_isEngine.1 m_X10_isEngine.2.1 m_X10_isEngine.2.2.1 m_X10_isEngine.2.2.2.1 1 10 := ⟨⟨_, _, rfl⟩, ⟨wd_646, wd_13, wd_88, wd_647⟩, ⟨by decide, by decide, by decide +kernel⟩⟩
theorem cv_X10_171 : p_cv MT RX10 171 48 10 1 := ⟨m_X10_isEngine, t_X10_isEngine, vo_X10_isEngine, wd_644, by decide⟩
theorem fr_X10_174 : p_fr RX10 174 2 0 := ⟨RX2, TX2, 12, rfl, uw_X2, by decide, wd_255⟩
theorem fr_X10_175 : p_fr RX10 175 2 1 := ⟨RX2, TX2, 12, rfl, uw_X2, by decide, wd_260⟩
theorem vo_X2_waitOf : VOk m_X2_waitOf.1 m_X2_waitOf.2.1 m_X2_waitOf.2.2.1 m_X2_waitOf.2.2.2.1 1 2 := ⟨⟨_, _, rfl⟩, ⟨wd_649, wd_650, wd_95, wd_651⟩, ⟨by decide, by decide, by decide +kernel⟩⟩
theorem cv_X10_178 : p_cv MT RX10 178 71 2 1 := ⟨m_X2_waitOf, t_X2_waitOf, vo_X2_waitOf, wd_648, by decide⟩
theorem q_X10_engine : p_mok MT m_X10_engine := p_mok_of (by decide +kernel) (by decide +kernel) ⟨trivial, trivial, cv_X10_171, trivial, trivial, trivial, trivial, trivial, trivial, fr_X10_26, fr_X10_93, fr_X10_174, trivial, trivial, trivial, trivial, fr_X10_26, fr_X10_93, fr_X10_175, trivial, trivial, trivial, trivial, fr_X10_26, fr_X10_93, trivial, cv_X10_178, trivial, trivial, trivial, trivial⟩
theorem vo_X3_placeOf : VOk m_X3_placeOf.1 m_X3_placeOf.2.1 m_X3_placeOf.2.2.1 m_X3_placeOf.2.2.2.1 1 3 := ⟨⟨_, _, rfl⟩, ⟨wd_597, wd_598, wd_92, wd_599⟩, ⟨by decide, by decide, by decide +kernel⟩⟩
theorem cv_X10_181 : p_cv MT RX10 181 86 3 1 := ⟨m_X3_placeOf, t_X3_placeOf, vo_X3_placeOf, wd_656, by decide⟩
theorem q_X10_station : p_mok MT m_X10_station := p_mok_of (by decide +kernel) (by decide +kernel) ⟨trivial, fr_X10_26, fr_X10_80, trivial, cv_X10_181, trivial, trivial⟩
theorem fr_X10_184 : p_fr RX10 184 2 8 := ⟨RX2, TX2, 12, rfl, uw_X2, by decide, wd_278⟩
theorem fr_X10_187 : p_fr RX10 187 2 10 := ⟨RX2, TX2, 12, rfl, uw_X2, by decide, wd_283⟩
theorem vo_X9_send : VOk m_X9_send.1 m_X9_send.2.1 m_X9_send.2.2.1 m_X9_send.2.2.2.1 1 9 := ⟨⟨_, _, rfl⟩, ⟨wd_662, wd_663, wd_94, wd_664⟩, ⟨by decide, by decide, by decide +kernel⟩⟩
theorem cv_X10_190 : p_cv MT RX10 190 131 9 1 := ⟨m_X9_send, t_X9_send, vo_X9_send, wd_661, by decide⟩
theorem vo_X6_tell_ : VOk m_X6_tell_.1 m_X6_tell_.2.1 m_X6_tell_.2.2.1 m_X6_tell_.2.2.2.1 2 6 := ⟨⟨_, _, rfl⟩, ⟨wd_671, wd_672, wd_89, wd_673⟩, ⟨by decide, by decide, by decide +kernel⟩⟩
theorem cv_X10_193 : p_cv MT RX10 193 112 6 2 := ⟨m_X6_tell_, t_X6_tell_, vo_X6_tell_, wd_670, by decide⟩
theorem q_X10_call : p_mok MT m_X10_call := p_mok_of (by decide +kernel) (by decide +kernel) ⟨trivial, cs_X10_120, trivial, trivial, trivial, trivial, fr_X10_26, fr_X10_93, fr_X10_184, trivial, trivial, fr_X10_26, fr_X10_93, fr_X10_187, trivial, trivial, fr_X10_26, trivial, cv_X10_190, trivial, trivial, trivial, trivial, trivial, trivial, trivial, fr_X10_10, trivial, fr_X10_26, fr_X10_93, fr_X10_187, trivial, trivial, trivial, trivial, fr_X10_26, fr_X10_93, fr_X10_184, trivial, trivial, trivial, cv_X10_193, trivial, trivial, trivial⟩
theorem fr_X10_43 : p_fr RX10 43 10 5 := ⟨RX10, TX10, 9, rfl, uw_X10, by decide, wd_412⟩
theorem vo_X1_find : VOk m_X1_find.1 m_X1_find.2.1 m_X1_find.2.2.1 m_X1_find.2.2.2.1 3 1 := ⟨⟨_, _, rfl⟩, ⟨wd_680, wd_681, wd_97, wd_682⟩, ⟨by decide, by decide, by decide +kernel⟩⟩
theorem cv_X10_196 : p_cv MT RX10 196 63 1 3 := ⟨m_X1_find, t_X1_find, vo_X1_find, wd_679, by decide⟩
theorem fr_X10_200 : p_fr RX10 200 1 0 := ⟨RX1, TX1, 4, rfl, uw_X1, by decide, wd_371⟩
theorem fr_X10_203 : p_fr RX10 203 1 1 := ⟨RX1, TX1, 4, rfl, uw_X1, by decide, wd_373⟩
theorem fr_X10_206 : p_fr RX10 206 1 2 := ⟨RX1, TX1, 4, rfl, uw_X1, by decide, wd_375⟩
theorem vo_X6_add : VOk m_X6_add.1 m_X6_add.2.1 m_X6_add.2.2.1 m_X6_add.2.2.2.1 1 6 := ⟨⟨_, _, rfl⟩, ⟨wd_613, wd_614, wd_89, wd_615⟩, ⟨by decide, by decide, by decide +kernel⟩⟩
theorem cv_X10_209 : p_cv MT RX10 209 110 6 1 := ⟨m_X6_add, t_X6_add, vo_X6_add, wd_693, by decide⟩
theorem fr_X10_212 : p_fr RX10 212 1 3 := ⟨RX1, TX1, 4, rfl, uw_X1, by decide, wd_377⟩
theorem q_X10_pair : p_mok MT m_X10_pair := p_mok_of (by decide +kernel) (by decide +kernel) ⟨trivial, cs_X10_120, trivial, trivial, cs_X10_120, trivial, trivial, trivial, trivial, fr_X10_43, trivial, fr_X10_26, trivial, trivial, cv_X10_196, trivial, trivial, trivial, trivial, fr_X10_10, trivial, fr_X10_43, fr_X10_200, trivial, trivial, fr_X10_43, fr_X10_203, trivial, cv_X10_193, trivial, fr_X10_10, trivial, fr_X10_43, fr_X10_206, trivial, cv_X10_209, trivial, fr_X10_43, fr_X10_212, trivial, trivial⟩
theorem q_X10_worstPair : p_mok MT m_X10_worstPair := p_mok_of (by decide +kernel) (by decide +kernel) ⟨trivial, trivial, trivial, trivial, trivial, trivial, trivial, trivial, trivial, trivial, trivial, trivial, trivial, trivial, trivial, trivial, trivial, fr_X10_26, fr_X10_80, fr_X10_159, trivial, trivial, trivial, trivial, fr_X10_26, fr_X10_80, fr_X10_159, trivial, trivial, trivial, trivial, fr_X10_43, trivial, fr_X10_26, trivial, trivial, cv_X10_196, trivial, trivial, fr_X10_43, fr_X10_212, trivial, trivial, trivial, trivial, trivial, trivial, trivial, trivial, trivial, trivial, trivial, trivial, trivial, trivial, trivial, trivial, trivial, trivial, trivial, trivial, trivial, trivial, fr_X10_10, trivial, trivial, trivial, trivial, cv_X10_193, trivial, trivial, trivial, trivial, trivial, trivial, trivial, trivial⟩
theorem vo_X2_nextMinute : VOk m_X2_nextMinute.1 m_X2_nextMinute.2.1 m_X2_nextMinute.2.2.1 m_X2_nextMinute.2.2.2.1 0 2 := ⟨⟨_, _, rfl⟩, ⟨wd_703, wd_704, wd_95, wd_705⟩, ⟨by decide, by decide, by decide +kernel⟩⟩
theorem cv_X10_215 : p_cv MT RX10 215 68 2 0 := ⟨m_X2_nextMinute, t_X2_nextMinute, vo_X2_nextMinute, wd_702, by decide⟩
theorem q_X10_pass : p_mok MT m_X10_pass := p_mok_of (by decide +kernel) (by decide +kernel) ⟨trivial, trivial, trivial, trivial, trivial, trivial, trivial, trivial, trivial, trivial, trivial, trivial, trivial, trivial, trivial, trivial, trivial, fr_X10_26, fr_X10_93, cv_X10_215, trivial, trivial, trivial, trivial, trivial, trivial, trivial⟩
theorem fr_X10_218 : p_fr RX10 218 9 5 := ⟨RX9, TX9, 6, rfl, uw_X9, by decide, wd_327⟩
theorem fs_X10_218 : p_fs RX10 218 9 5 0 := ⟨RX9, TX9, 6, tyX9, rfl, uw_X9, by decide, wd_327, tyX9_ok, nmX9, rfl, rfl⟩
theorem q_X10_seed : p_mok MT m_X10_seed := p_mok_of (by decide +kernel) (by decide +kernel) ⟨trivial, fr_X10_26, fr_X10_218, trivial, trivial, fr_X10_26, trivial, fs_X10_218, trivial, trivial, trivial⟩
theorem fr_X10_221 : p_fr RX10 221 2 7 := ⟨RX2, TX2, 12, rfl, uw_X2, by decide, wd_275⟩
theorem fr_X10_224 : p_fr RX10 224 2 9 := ⟨RX2, TX2, 12, rfl, uw_X2, by decide, wd_281⟩
theorem vo_X9_draw : VOk m_X9_draw.1 m_X9_draw.2.1 m_X9_draw.2.2.1 m_X9_draw.2.2.2.1 1 9 := ⟨⟨_, _, rfl⟩, ⟨wd_715, wd_716, wd_94, wd_717⟩, ⟨by decide, by decide, by decide +kernel⟩⟩
theorem cv_X10_227 : p_cv MT RX10 227 126 9 1 := ⟨m_X9_draw, t_X9_draw, vo_X9_draw, wd_714, by decide⟩
theorem vo_X9_callSomewhere : VOk m_X9_callSomewhere.1 m_X9_callSomewhere.2.1 m_X9_callSomewhere.2.2.1 m_X9_callSomewhere.2.2.2.1 0 9 := ⟨⟨_, _, rfl⟩, ⟨wd_720, wd_721, wd_94, wd_722⟩, ⟨by decide, by decide, by decide +kernel⟩⟩
theorem cv_X10_230 : p_cv MT RX10 230 132 9 0 := ⟨m_X9_callSomewhere, t_X9_callSomewhere, vo_X9_callSomewhere, wd_719, by decide⟩
theorem q_X10_storms : p_mok MT m_X10_storms := p_mok_of (by decide +kernel) (by decide +kernel) ⟨trivial, trivial, trivial, trivial, trivial, trivial, trivial, trivial, trivial, trivial, trivial, trivial, trivial, trivial, fr_X10_26, fr_X10_93, fr_X10_221, trivial, trivial, fr_X10_26, fr_X10_93, fr_X10_184, trivial, trivial, fr_X10_26, fr_X10_93, fr_X10_224, trivial, trivial, trivial, trivial, trivial, trivial, trivial, fr_X10_26, fr_X10_93, cv_X10_215, trivial, trivial, fr_X10_26, trivial, cv_X10_227, trivial, trivial, trivial, fr_X10_26, cv_X10_230, trivial, trivial, trivial, fr_X10_10, trivial, fr_X10_26, fr_X10_93, fr_X10_184, trivial, trivial, trivial, trivial, fr_X10_26, fr_X10_93, fr_X10_224, trivial, trivial, trivial, cv_X10_193, trivial, fr_X10_26, fr_X10_93, fr_X10_221, trivial, trivial, trivial, trivial⟩
theorem vo_X10_coverNow : VOk m_X10_coverNow.1 m_X10_coverNow.2.1 m_X10_coverNow.2.2.1 m_X10_coverNow.2.2.2.1 0 10 := ⟨⟨_, _, rfl⟩, ⟨wd_732, wd_16, wd_88, wd_733⟩, ⟨by decide, by decide, by decide +kernel⟩⟩
theorem cv_X10_233 : p_cv MT RX10 233 50 10 0 := ⟨m_X10_coverNow, t_X10_coverNow, vo_X10_coverNow, wd_730, by decide⟩
theorem vo_X7_doubled : VOk m_X7_doubled.1 m_X7_doubled.2.1 m_X7_doubled.2.2.1 m_X7_doubled.2.2.2.1 1 7 := ⟨⟨_, _, rfl⟩, ⟨wd_752, wd_753, wd_96, wd_754⟩, ⟨by decide, by decide, by decide +kernel⟩⟩
theorem cv_X10_236 : p_cv MT RX10 236 118 7 1 := ⟨m_X7_doubled, t_X7_doubled, vo_X7_doubled, wd_751, by decide⟩
theorem q_X10_cover : p_mok MT m_X10_cover := p_mok_of (by decide +kernel) (by decide +kernel) ⟨trivial, cv_X10_233, trivial, trivial, fr_X10_10, trivial, fr_X10_36, trivial, fr_X10_26, fr_X10_80, cv_X10_236, trivial, trivial, fr_X10_26, fr_X10_80, trivial, cv_X10_152, trivial, cv_X10_193, trivial, trivial, trivial⟩
theorem fr_X10_240 : p_fr RX10 240 3 8 := ⟨RX3, TX3, 9, rfl, uw_X3, by decide, wd_189⟩
theorem vo_X7_putStations : VOk m_X7_putStations.1 m_X7_putStations.2.1 m_X7_putStations.2.2.1 m_X7_putStations.2.2.2.1 1 7 := ⟨⟨_, _, rfl⟩, ⟨wd_760, wd_761, wd_96, wd_762⟩, ⟨by decide, by decide, by decide +kernel⟩⟩
theorem cv_X10_243 : p_cv MT RX10 243 116 7 1 := ⟨m_X7_putStations, t_X7_putStations, vo_X7_putStations, wd_759, by decide⟩
theorem fr_X10_247 : p_fr RX10 247 7 2 := ⟨RX7, TX7, 4, rfl, uw_X7, by decide, wd_353⟩
theorem vo_X7_covered : VOk m_X7_covered.1 m_X7_covered.2.1 m_X7_covered.2.2.1 m_X7_covered.2.2.2.1 1 7 := ⟨⟨_, _, rfl⟩, ⟨wd_747, wd_748, wd_96, wd_749⟩, ⟨by decide, by decide, by decide +kernel⟩⟩
theorem cv_X10_250 : p_cv MT RX10 250 117 7 1 := ⟨m_X7_covered, t_X7_covered, vo_X7_covered, wd_746, by decide⟩
theorem q_X10_covers : p_mok MT m_X10_covers := p_mok_of (by decide +kernel) (by decide +kernel) ⟨trivial, trivial, trivial, trivial, trivial, fr_X10_26, fr_X10_80, fr_X10_240, trivial, trivial, trivial, trivial, trivial, cv_X10_146, trivial, fr_X10_36, trivial, cv_X10_243, trivial, fr_X10_10, trivial, fr_X10_36, fr_X10_247, trivial, cv_X10_155, trivial, fr_X10_36, trivial, fr_X10_26, fr_X10_80, cv_X10_250, trivial, trivial⟩
theorem vo_X10_quotientBits : SOk m_X10_quotientBits.1 m_X10_quotientBits.2.1 m_X10_quotientBits.2.2.1 m_X10_quotientBits.2.2.2.1 2 := ⟨⟨wd_768, wd_88, wd_769⟩, ⟨by decide, by decide, by decide +kernel⟩⟩
theorem cs_X10_253 : p_cs MT RX10 253 56 1 2 := ⟨m_X10_quotientBits, t_X10_quotientBits, vo_X10_quotientBits, wd_767, by decide⟩
theorem q_X10_share : p_mok MT m_X10_share := p_mok_of (by decide +kernel) (by decide +kernel) ⟨trivial, cv_X10_233, trivial, fr_X10_26, fr_X10_80, trivial, cv_X10_152, cs_X10_253, trivial, trivial⟩
theorem vo_X7_bestStations : VOk m_X7_bestStations.1 m_X7_bestStations.2.1 m_X7_bestStations.2.2.1 m_X7_bestStations.2.2.2.1 3 7 := ⟨⟨_, _, rfl⟩, ⟨wd_778, wd_779, wd_96, wd_780⟩, ⟨by decide, by decide, by decide +kernel⟩⟩
theorem cv_X10_256 : p_cv MT RX10 256 120 7 3 := ⟨m_X7_bestStations, t_X7_bestStations, vo_X7_bestStations, wd_777, by decide⟩
theorem q_X10_best : p_mok MT m_X10_best := p_mok_of (by decide +kernel) (by decide +kernel) ⟨trivial, trivial, trivial, trivial, fr_X10_26, fr_X10_80, fr_X10_240, trivial, trivial, trivial, trivial, cv_X10_146, trivial, fr_X10_36, trivial, fr_X10_26, fr_X10_80, trivial, trivial, cv_X10_256, trivial, trivial, fr_X10_36, trivial, cv_X10_243, trivial, fr_X10_10, trivial, trivial, trivial, fr_X10_36, trivial, fr_X10_26, fr_X10_80, cv_X10_236, trivial, cv_X10_193, trivial, fr_X10_36, trivial, fr_X10_26, fr_X10_80, cv_X10_250, trivial, trivial⟩
theorem vo_X6_clear : VOk m_X6_clear.1 m_X6_clear.2.1 m_X6_clear.2.2.1 m_X6_clear.2.2.2.1 0 6 := ⟨⟨_, _, rfl⟩, ⟨wd_609, wd_610, wd_89, wd_611⟩, ⟨by decide, by decide, by decide +kernel⟩⟩
theorem cv_X10_260 : p_cv MT RX10 260 109 6 0 := ⟨m_X6_clear, t_X6_clear, vo_X6_clear, wd_794, by decide⟩
theorem q_X10_nested : p_mok MT m_X10_nested := p_mok_of (by decide +kernel) (by decide +kernel) ⟨trivial, cv_X10_146, trivial, fr_X10_10, cv_X10_260, trivial, trivial, trivial, trivial, trivial, trivial, trivial, trivial, fr_X10_26, fr_X10_80, fr_X10_240, trivial, trivial, fr_X10_36, trivial, fr_X10_26, fr_X10_80, trivial, trivial, cv_X10_256, trivial, trivial, trivial, trivial, trivial, trivial, trivial, trivial, trivial, trivial, trivial, fr_X10_10, trivial, trivial, cv_X10_209, trivial, trivial, trivial, trivial, trivial, trivial, trivial⟩
theorem vo_X7_bestBeside : VOk m_X7_bestBeside.1 m_X7_bestBeside.2.1 m_X7_bestBeside.2.2.1 m_X7_bestBeside.2.2.2.1 2 7 := ⟨⟨_, _, rfl⟩, ⟨wd_800, wd_801, wd_96, wd_802⟩, ⟨by decide, by decide, by decide +kernel⟩⟩
theorem cv_X10_263 : p_cv MT RX10 263 121 7 2 := ⟨m_X7_bestBeside, t_X7_bestBeside, vo_X7_bestBeside, wd_799, by decide⟩
theorem vo_X7_coverOf : VOk m_X7_coverOf.1 m_X7_coverOf.2.1 m_X7_coverOf.2.2.1 m_X7_coverOf.2.2.2.1 2 7 := ⟨⟨_, _, rfl⟩, ⟨wd_804, wd_805, wd_96, wd_806⟩, ⟨by decide, by decide, by decide +kernel⟩⟩
theorem cv_X10_267 : p_cv MT RX10 267 119 7 2 := ⟨m_X7_coverOf, t_X7_coverOf, vo_X7_coverOf, wd_807, by decide⟩
theorem q_X10_greedy : p_mok MT m_X10_greedy := p_mok_of (by decide +kernel) (by decide +kernel) ⟨trivial, cv_X10_146, trivial, fr_X10_10, cv_X10_260, trivial, trivial, trivial, trivial, trivial, trivial, trivial, trivial, fr_X10_26, fr_X10_80, fr_X10_240, trivial, trivial, fr_X10_36, trivial, fr_X10_26, fr_X10_80, trivial, cv_X10_263, trivial, trivial, trivial, trivial, trivial, trivial, trivial, trivial, fr_X10_10, trivial, trivial, cv_X10_209, trivial, fr_X10_36, trivial, fr_X10_26, fr_X10_80, trivial, cv_X10_267, trivial, fr_X10_36, trivial, fr_X10_26, fr_X10_80, trivial, fr_X10_36, trivial, fr_X10_26, fr_X10_80, trivial, trivial, cv_X10_256, cv_X10_267, trivial, trivial, trivial, trivial, trivial, trivial, trivial⟩
theorem vo_X2_inMode : VOk m_X2_inMode.1 m_X2_inMode.2.1 m_X2_inMode.2.2.1 m_X2_inMode.2.2.2.1 1 2 := ⟨⟨_, _, rfl⟩, ⟨wd_735, wd_736, wd_95, wd_737⟩, ⟨by decide, by decide, by decide +kernel⟩⟩
theorem cv_X10_270 : p_cv MT RX10 270 69 2 1 := ⟨m_X2_inMode, t_X2_inMode, vo_X2_inMode, wd_734, by decide⟩
theorem vo_X2_postedAt : VOk m_X2_postedAt.1 m_X2_postedAt.2.1 m_X2_postedAt.2.2.1 m_X2_postedAt.2.2.2.1 1 2 := ⟨⟨_, _, rfl⟩, ⟨wd_813, wd_814, wd_95, wd_815⟩, ⟨by decide, by decide, by decide +kernel⟩⟩
theorem cv_X10_273 : p_cv MT RX10 273 70 2 1 := ⟨m_X2_postedAt, t_X2_postedAt, vo_X2_postedAt, wd_812, by decide⟩
theorem vo_X7_putEngines : VOk m_X7_putEngines.1 m_X7_putEngines.2.1 m_X7_putEngines.2.2.1 m_X7_putEngines.2.2.2.1 2 7 := ⟨⟨_, _, rfl⟩, ⟨wd_739, wd_740, wd_96, wd_741⟩, ⟨by decide, by decide, by decide +kernel⟩⟩
theorem cv_X10_276 : p_cv MT RX10 276 115 7 2 := ⟨m_X7_putEngines, t_X7_putEngines, vo_X7_putEngines, wd_738, by decide⟩
theorem q_X10_dearest : p_mok MT m_X10_dearest := p_mok_of (by decide +kernel) (by decide +kernel) ⟨trivial, fr_X10_26, fr_X10_80, fr_X10_240, trivial, trivial, trivial, trivial, cv_X10_233, trivial, trivial, fr_X10_26, fr_X10_93, trivial, cv_X10_270, trivial, trivial, trivial, trivial, trivial, trivial, trivial, trivial, trivial, fr_X10_26, fr_X10_80, fr_X10_240, trivial, trivial, fr_X10_36, trivial, fr_X10_26, fr_X10_93, trivial, trivial, fr_X10_26, fr_X10_93, trivial, cv_X10_273, trivial, trivial, trivial, cv_X10_276, trivial, trivial, fr_X10_36, trivial, fr_X10_26, fr_X10_80, cv_X10_250, trivial, trivial, trivial, trivial, trivial, trivial, trivial, trivial, trivial, trivial, trivial, trivial, fr_X10_10, trivial, trivial, cv_X10_155, trivial, trivial, trivial⟩
theorem fr_X10_283 : p_fr RX10 283 3 7 := ⟨RX3, TX3, 9, rfl, uw_X3, by decide, wd_183⟩
theorem fr_X10_286 : p_fr RX10 286 7 1 := ⟨RX7, TX7, 4, rfl, uw_X7, by decide, wd_351⟩
theorem vo_X7_look : VOk m_X7_look.1 m_X7_look.2.1 m_X7_look.2.2.1 m_X7_look.2.2.2.1 3 7 := ⟨⟨_, _, rfl⟩, ⟨wd_593, wd_594, wd_96, wd_595⟩, ⟨by decide, by decide, by decide +kernel⟩⟩
theorem cv_X10_287 : p_cv MT RX10 287 113 7 3 := ⟨m_X7_look, t_X7_look, vo_X7_look, wd_592, by decide⟩
theorem fr_X10_290 : p_fr RX10 290 3 1 := ⟨RX3, TX3, 9, rfl, uw_X3, by decide, wd_171⟩
theorem fr_X10_293 : p_fr RX10 293 3 2 := ⟨RX3, TX3, 9, rfl, uw_X3, by decide, wd_173⟩
theorem q_X10_dearestRoad : p_mok MT m_X10_dearestRoad := p_mok_of (by decide +kernel) (by decide +kernel) ⟨trivial, fr_X10_26, fr_X10_93, trivial, cv_X10_270, trivial, wd_820, trivial, trivial, trivial, trivial, trivial, trivial, trivial, fr_X10_26, fr_X10_80, fr_X10_283, trivial, trivial, fr_X10_26, fr_X10_80, fr_X10_127, trivial, trivial, trivial, trivial, fr_X10_26, fr_X10_80, trivial, fr_X10_36, fr_X10_286, trivial, cv_X10_134, trivial, fr_X10_36, trivial, fr_X10_26, fr_X10_80, trivial, fr_X10_36, fr_X10_286, trivial, fr_X10_26, fr_X10_111, cv_X10_287, trivial, fr_X10_36, trivial, fr_X10_26, fr_X10_93, trivial, cv_X10_276, trivial, fr_X10_36, trivial, fr_X10_26, fr_X10_80, cv_X10_250, trivial, trivial, trivial, fr_X10_36, trivial, fr_X10_26, fr_X10_80, cv_X10_250, trivial, trivial, trivial, trivial, trivial, trivial, trivial, trivial, trivial, trivial, trivial, fr_X10_10, trivial, trivial, cv_X10_155, trivial, trivial, fr_X10_26, fr_X10_80, fr_X10_290, trivial, trivial, trivial, trivial, fr_X10_26, fr_X10_80, fr_X10_293, trivial, trivial, trivial, trivial, trivial⟩
theorem q_X10_least : p_mok MT m_X10_least := p_mok_of (by decide +kernel) (by decide +kernel) ⟨trivial, trivial, trivial, trivial, trivial, fr_X10_26, fr_X10_93, trivial, cv_X10_270, trivial, trivial, trivial, trivial, trivial, trivial, trivial, fr_X10_36, trivial, fr_X10_26, fr_X10_80, trivial, fr_X10_26, fr_X10_80, fr_X10_131, trivial, cv_X10_287, trivial, fr_X10_36, trivial, fr_X10_26, fr_X10_93, trivial, cv_X10_276, trivial, fr_X10_36, trivial, fr_X10_26, fr_X10_80, cv_X10_250, trivial, trivial, trivial, fr_X10_10, trivial, fr_X10_36, trivial, fr_X10_26, fr_X10_80, cv_X10_250, trivial, cv_X10_155, trivial, trivial, trivial, trivial, trivial, trivial, trivial⟩
theorem q_X10_twice : p_mok MT m_X10_twice := p_mok_of (by decide +kernel) (by decide +kernel) ⟨trivial, trivial, trivial, trivial, fr_X10_26, fr_X10_80, fr_X10_240, trivial, trivial, trivial, trivial, cv_X10_146, trivial, fr_X10_36, trivial, fr_X10_26, fr_X10_80, trivial, trivial, cv_X10_256, trivial, trivial, fr_X10_36, trivial, cv_X10_243, trivial, fr_X10_10, trivial, trivial, trivial, fr_X10_36, trivial, fr_X10_26, fr_X10_80, cv_X10_250, trivial, cv_X10_193, trivial, fr_X10_36, trivial, fr_X10_26, fr_X10_80, cv_X10_236, trivial, trivial⟩
theorem vo_X9_nearestWay : VOk m_X9_nearestWay.1 m_X9_nearestWay.2.1 m_X9_nearestWay.2.2.1 m_X9_nearestWay.2.2.2.1 1 9 := ⟨⟨_, _, rfl⟩, ⟨wd_834, wd_835, wd_94, wd_836⟩, ⟨by decide, by decide, by decide +kernel⟩⟩
theorem cv_X10_296 : p_cv MT RX10 296 130 9 1 := ⟨m_X9_nearestWay, t_X9_nearestWay, vo_X9_nearestWay, wd_833, by decide⟩
theorem cs_X10_299 : p_cs MT RX10 299 0 4 0 := ⟨wd_837, wd_499, wd_100, wd_500⟩
theorem q_X10_spread : p_mok MT m_X10_spread := p_mok_of (by decide +kernel) (by decide +kernel) ⟨trivial, trivial, trivial, trivial, trivial, trivial, trivial, trivial, trivial, trivial, trivial, trivial, fr_X10_26, fr_X10_80, fr_X10_159, trivial, trivial, trivial, trivial, fr_X10_26, trivial, cv_X10_296, trivial, trivial, trivial, trivial, trivial, trivial, trivial, trivial, trivial, trivial, trivial, trivial, trivial, trivial, trivial, trivial, trivial, trivial, trivial, fr_X10_10, trivial, trivial, cs_X10_299, trivial, trivial, trivial, cv_X10_193, trivial, trivial, trivial⟩
theorem fr_X10_304 : p_fr RX10 304 2 4 := ⟨RX2, TX2, 12, rfl, uw_X2, by decide, wd_269⟩
theorem vo_X10_coverWithout : VOk m_X10_coverWithout.1 m_X10_coverWithout.2.1 m_X10_coverWithout.2.2.1 m_X10_coverWithout.2.2.2.1 1 10 := ⟨⟨_, _, rfl⟩, ⟨wd_844, wd_18, wd_88, wd_845⟩, ⟨by decide, by decide, by decide +kernel⟩⟩
theorem cv_X10_307 : p_cv MT RX10 307 51 10 1 := ⟨m_X10_coverWithout, t_X10_coverWithout, vo_X10_coverWithout, wd_842, by decide⟩
theorem q_X10_state : p_mok MT m_X10_state := p_mok_of (by decide +kernel) (by decide +kernel) ⟨trivial, trivial, trivial, trivial, trivial, fr_X10_26, fr_X10_93, fr_X10_304, trivial, trivial, trivial, trivial, trivial, cv_X10_146, trivial, trivial, cv_X10_307, trivial, trivial, fr_X10_10, trivial, fr_X10_36, trivial, fr_X10_26, fr_X10_80, cv_X10_236, trivial, cv_X10_155, trivial, trivial, trivial⟩
theorem vo_J_bitCount : SOk m_J_bitCount.1 m_J_bitCount.2.1 m_J_bitCount.2.2.1 m_J_bitCount.2.2.2.1 1 := ⟨⟨wd_782, wd_104, wd_783⟩, ⟨by decide, by decide, by decide +kernel⟩⟩
theorem cs_X10_310 : p_cs MT RX10 310 0 1 1 := ⟨m_J_bitCount, t_J_bitCount, vo_J_bitCount, wd_850, by decide⟩
theorem q_X10_worst : p_mok MT m_X10_worst := p_mok_of (by decide +kernel) (by decide +kernel) ⟨trivial, trivial, trivial, trivial, fr_X10_26, fr_X10_93, fr_X10_304, trivial, trivial, trivial, trivial, cv_X10_146, wd_820, trivial, trivial, trivial, trivial, trivial, trivial, trivial, trivial, trivial, trivial, fr_X10_26, fr_X10_93, fr_X10_304, trivial, trivial, trivial, cs_X10_310, trivial, trivial, trivial, trivial, cv_X10_307, trivial, trivial, trivial, trivial, trivial, trivial, trivial, trivial, trivial, trivial, trivial, trivial, trivial, trivial, trivial, trivial, trivial, fr_X10_10, trivial, trivial, trivial, trivial, cv_X10_193, trivial, trivial, trivial⟩
theorem vo_X10_statesOf : VOk m_X10_statesOf.1 m_X10_statesOf.2.1 m_X10_statesOf.2.2.1 m_X10_statesOf.2.2.2.1 2 10 := ⟨⟨_, _, rfl⟩, ⟨wd_857, wd_19, wd_88, wd_858⟩, ⟨by decide, by decide, by decide +kernel⟩⟩
theorem cv_X10_313 : p_cv MT RX10 313 54 10 2 := ⟨m_X10_statesOf, t_X10_statesOf, vo_X10_statesOf, wd_855, by decide⟩
theorem q_X10_states : p_mok MT m_X10_states := p_mok_of (by decide +kernel) (by decide +kernel) ⟨trivial, trivial, trivial, trivial, trivial, cv_X10_146, trivial, fr_X10_10, cv_X10_260, trivial, trivial, trivial, trivial, trivial, trivial, fr_X10_26, fr_X10_93, fr_X10_304, trivial, trivial, trivial, trivial, cv_X10_313, trivial, trivial, fr_X10_10, trivial, trivial, cv_X10_209, trivial, trivial, trivial, trivial, trivial, trivial, trivial, trivial, trivial⟩
theorem fr_X10_50 : p_fr RX10 50 10 6 := ⟨RX10, TX10, 9, rfl, uw_X10, by decide, wd_413⟩
theorem vo_X0_prepare : VOk m_X0_prepare.1 m_X0_prepare.2.1 m_X0_prepare.2.2.1 m_X0_prepare.2.2.2.1 2 0 := ⟨⟨_, _, rfl⟩, ⟨wd_864, wd_865, wd_98, wd_866⟩, ⟨by decide, by decide, by decide +kernel⟩⟩
theorem cv_X10_316 : p_cv MT RX10 316 57 0 2 := ⟨m_X0_prepare, t_X0_prepare, vo_X0_prepare, wd_863, by decide⟩
theorem vo_X0_expectedNow : VOk m_X0_expectedNow.1 m_X0_expectedNow.2.1 m_X0_expectedNow.2.2.1 m_X0_expectedNow.2.2.2.1 1 0 := ⟨⟨_, _, rfl⟩, ⟨wd_868, wd_869, wd_98, wd_870⟩, ⟨by decide, by decide, by decide +kernel⟩⟩
theorem cv_X10_320 : p_cv MT RX10 320 58 0 1 := ⟨m_X0_expectedNow, t_X0_expectedNow, vo_X0_expectedNow, wd_867, by decide⟩
theorem q_X10_expects : p_mok MT m_X10_expects := p_mok_of (by decide +kernel) (by decide +kernel) ⟨trivial, trivial, trivial, trivial, trivial, trivial, trivial, trivial, cv_X10_146, trivial, fr_X10_50, trivial, fr_X10_36, trivial, cv_X10_316, trivial, fr_X10_50, trivial, fr_X10_26, cv_X10_320, trivial, trivial⟩
theorem vo_X0_seekBest : VOk m_X0_seekBest.1 m_X0_seekBest.2.1 m_X0_seekBest.2.2.1 m_X0_seekBest.2.2.2.1 2 0 := ⟨⟨_, _, rfl⟩, ⟨wd_884, wd_885, wd_98, wd_886⟩, ⟨by decide, by decide, by decide +kernel⟩⟩
theorem cv_X10_324 : p_cv MT RX10 324 61 0 2 := ⟨m_X0_seekBest, t_X0_seekBest, vo_X0_seekBest, wd_883, by decide⟩
theorem fr_X10_327 : p_fr RX10 327 0 0 := ⟨RX0, TX0, 4, rfl, uw_X0, by decide, wd_394⟩
theorem q_X10_bestFor : p_mok MT m_X10_bestFor := p_mok_of (by decide +kernel) (by decide +kernel) ⟨trivial, trivial, trivial, trivial, trivial, trivial, trivial, trivial, fr_X10_26, fr_X10_93, trivial, cv_X10_270, cs_X10_310, trivial, trivial, fr_X10_26, fr_X10_80, fr_X10_240, trivial, trivial, trivial, trivial, trivial, trivial, cv_X10_146, trivial, fr_X10_50, trivial, fr_X10_36, trivial, cv_X10_316, trivial, fr_X10_50, trivial, fr_X10_26, fr_X10_80, trivial, cv_X10_324, trivial, trivial, fr_X10_10, cv_X10_260, trivial, trivial, trivial, trivial, trivial, trivial, fr_X10_10, trivial, fr_X10_50, fr_X10_327, trivial, trivial, trivial, cv_X10_209, trivial, trivial, trivial, fr_X10_10, trivial, fr_X10_50, trivial, fr_X10_26, cv_X10_320, trivial, cv_X10_209, trivial, trivial, trivial⟩
theorem vo_X10_greatestCover : VOk m_X10_greatestCover.1 m_X10_greatestCover.2.1 m_X10_greatestCover.2.2.1 m_X10_greatestCover.2.2.2.1 0 10 := ⟨⟨_, _, rfl⟩, ⟨wd_901, wd_23, wd_88, wd_902⟩, ⟨by decide, by decide, by decide +kernel⟩⟩
theorem cv_X10_330 : p_cv MT RX10 330 52 10 0 := ⟨m_X10_greatestCover, t_X10_greatestCover, vo_X10_greatestCover, wd_899, by decide⟩
theorem q_X10_regret : p_mok MT m_X10_regret := p_mok_of (by decide +kernel) (by decide +kernel) ⟨trivial, cv_X10_233, trivial, trivial, cv_X10_330, trivial, trivial, fr_X10_10, trivial, trivial, trivial, trivial, cv_X10_193, trivial, trivial, trivial, trivial, trivial⟩
theorem vo_X10_planned : VOk m_X10_planned.1 m_X10_planned.2.1 m_X10_planned.2.2.1 m_X10_planned.2.2.2.1 0 10 := ⟨⟨_, _, rfl⟩, ⟨wd_910, wd_24, wd_88, wd_911⟩, ⟨by decide, by decide, by decide +kernel⟩⟩
theorem cv_X10_333 : p_cv MT RX10 333 55 10 0 := ⟨m_X10_planned, t_X10_planned, vo_X10_planned, wd_908, by decide⟩
theorem vo_X4_choose : VOk m_X4_choose.1 m_X4_choose.2.1 m_X4_choose.2.2.1 m_X4_choose.2.2.2.1 1 4 := ⟨⟨_, _, rfl⟩, ⟨wd_987, wd_988, wd_105, wd_989⟩, ⟨by decide, by decide, by decide +kernel⟩⟩
theorem cv_X10_337 : p_cv MT RX10 337 96 4 1 := ⟨m_X4_choose, t_X4_choose, vo_X4_choose, wd_986, by decide⟩
theorem fr_X10_342 : p_fr RX10 342 4 4 := ⟨RX4, TX4, 9, rfl, uw_X4, by decide, wd_927⟩
theorem fr_X10_345 : p_fr RX10 345 4 3 := ⟨RX4, TX4, 9, rfl, uw_X4, by decide, wd_925⟩
theorem fr_X10_346 : p_fr RX10 346 4 2 := ⟨RX4, TX4, 9, rfl, uw_X4, by decide, wd_923⟩
theorem fr_X10_349 : p_fr RX10 349 4 1 := ⟨RX4, TX4, 9, rfl, uw_X4, by decide, wd_921⟩
theorem fr_X10_350 : p_fr RX10 350 4 0 := ⟨RX4, TX4, 9, rfl, uw_X4, by decide, wd_919⟩
theorem fr_X10_352 : p_fr RX10 352 4 5 := ⟨RX4, TX4, 9, rfl, uw_X4, by decide, wd_929⟩
theorem q_X10_moves : p_mok MT m_X10_moves := p_mok_of (by decide +kernel) (by decide +kernel) ⟨trivial, trivial, trivial, trivial, trivial, trivial, trivial, trivial, cv_X10_333, trivial, trivial, trivial, cv_X10_337, trivial, fr_X10_10, trivial, fr_X10_342, trivial, cv_X10_155, trivial, trivial, trivial, trivial, fr_X10_345, trivial, trivial, fr_X10_346, trivial, trivial, trivial, fr_X10_349, trivial, trivial, trivial, trivial, fr_X10_10, trivial, fr_X10_350, trivial, trivial, trivial, cv_X10_209, trivial, fr_X10_10, trivial, fr_X10_346, trivial, trivial, trivial, cv_X10_209, trivial, trivial, trivial, fr_X10_352, trivial, trivial⟩
theorem vo_X9_mayMove : VOk m_X9_mayMove.1 m_X9_mayMove.2.1 m_X9_mayMove.2.2.1 m_X9_mayMove.2.2.2.1 0 9 := ⟨⟨_, _, rfl⟩, ⟨wd_999, wd_1000, wd_94, wd_1001⟩, ⟨by decide, by decide, by decide +kernel⟩⟩
theorem cv_X10_354 : p_cv MT RX10 354 127 9 0 := ⟨m_X9_mayMove, t_X9_mayMove, vo_X9_mayMove, wd_998, by decide⟩
theorem cs_X10_357 : p_cs MT RX10 357 0 5 0 := ⟨wd_903, wd_496, wd_100, wd_497⟩
theorem vo_X4_wayTo : VOk m_X4_wayTo.1 m_X4_wayTo.2.1 m_X4_wayTo.2.2.1 m_X4_wayTo.2.2.2.1 2 4 := ⟨⟨_, _, rfl⟩, ⟨wd_982, wd_983, wd_105, wd_984⟩, ⟨by decide, by decide, by decide +kernel⟩⟩
theorem cv_X10_360 : p_cv MT RX10 360 95 4 2 := ⟨m_X4_wayTo, t_X4_wayTo, vo_X4_wayTo, wd_1007, by decide⟩
theorem vo_X2_move : VOk m_X2_move.1 m_X2_move.2.1 m_X2_move.2.2.1 m_X2_move.2.2.2.1 3 2 := ⟨⟨_, _, rfl⟩, ⟨wd_1009, wd_1010, wd_95, wd_1011⟩, ⟨by decide, by decide, by decide +kernel⟩⟩
theorem cv_X10_363 : p_cv MT RX10 363 73 2 3 := ⟨m_X2_move, t_X2_move, vo_X2_move, wd_1008, by decide⟩
theorem q_X10_up : p_mok MT m_X10_up := p_mok_of (by decide +kernel) (by decide +kernel) ⟨trivial, trivial, trivial, trivial, trivial, trivial, trivial, trivial, cv_X10_333, trivial, trivial, trivial, trivial, fr_X10_26, cv_X10_354, cs_X10_357, cv_X10_337, trivial, trivial, trivial, trivial, trivial, trivial, fr_X10_345, trivial, trivial, fr_X10_346, trivial, trivial, trivial, fr_X10_349, trivial, trivial, trivial, trivial, fr_X10_26, fr_X10_93, trivial, fr_X10_350, trivial, trivial, trivial, fr_X10_346, trivial, trivial, trivial, trivial, trivial, fr_X10_346, trivial, trivial, cv_X10_360, cv_X10_363, trivial, trivial, trivial, trivial, fr_X10_10, trivial, fr_X10_352, trivial, trivial, cv_X10_233, trivial, cv_X10_193, trivial, trivial, trivial⟩
theorem vo_X3_wayOfStations : VOk m_X3_wayOfStations.1 m_X3_wayOfStations.2.1 m_X3_wayOfStations.2.2.1 m_X3_wayOfStations.2.2.2.1 2 3 := ⟨⟨_, _, rfl⟩, ⟨wd_962, wd_963, wd_92, wd_964⟩, ⟨by decide, by decide, by decide +kernel⟩⟩
theorem cv_X10_367 : p_cv MT RX10 367 85 3 2 := ⟨m_X3_wayOfStations, t_X3_wayOfStations, vo_X3_wayOfStations, wd_1021, by decide⟩
theorem q_X10_post : p_mok MT m_X10_post := p_mok_of (by decide +kernel) (by decide +kernel) ⟨trivial, trivial, cv_X10_171, trivial, trivial, trivial, cv_X10_143, trivial, trivial, trivial, trivial, fr_X10_26, fr_X10_93, fr_X10_175, trivial, trivial, trivial, trivial, trivial, trivial, fr_X10_26, fr_X10_93, fr_X10_174, trivial, trivial, trivial, trivial, fr_X10_26, fr_X10_80, trivial, trivial, cv_X10_367, trivial, trivial, trivial, trivial, trivial, trivial, trivial, trivial, trivial, trivial, fr_X10_26, cv_X10_354, trivial, trivial, trivial, trivial, trivial, fr_X10_26, fr_X10_93, trivial, trivial, trivial, cv_X10_363, trivial, trivial, trivial⟩
theorem q_X10_swap : p_mok MT m_X10_swap := p_mok_of (by decide +kernel) (by decide +kernel) ⟨trivial, trivial, cv_X10_171, trivial, trivial, trivial, cv_X10_171, trivial, trivial, trivial, trivial, trivial, trivial, trivial, fr_X10_26, fr_X10_93, fr_X10_175, trivial, trivial, trivial, trivial, fr_X10_26, fr_X10_93, fr_X10_175, trivial, trivial, trivial, trivial, trivial, trivial, fr_X10_26, fr_X10_93, fr_X10_174, trivial, trivial, trivial, trivial, fr_X10_26, fr_X10_93, fr_X10_174, trivial, trivial, trivial, trivial, fr_X10_26, fr_X10_80, trivial, trivial, cv_X10_367, trivial, trivial, trivial, trivial, trivial, trivial, trivial, trivial, trivial, trivial, fr_X10_26, cv_X10_354, trivial, trivial, trivial, trivial, trivial, fr_X10_26, fr_X10_93, trivial, trivial, trivial, cv_X10_363, trivial, fr_X10_26, fr_X10_93, trivial, trivial, trivial, cv_X10_363, trivial, trivial, trivial⟩
theorem vo_X2_waitForMove : VOk m_X2_waitForMove.1 m_X2_waitForMove.2.1 m_X2_waitForMove.2.2.1 m_X2_waitForMove.2.2.2.1 1 2 := ⟨⟨_, _, rfl⟩, ⟨wd_1031, wd_1032, wd_95, wd_1033⟩, ⟨by decide, by decide, by decide +kernel⟩⟩
theorem cv_X10_370 : p_cv MT RX10 370 76 2 1 := ⟨m_X2_waitForMove, t_X2_waitForMove, vo_X2_waitForMove, wd_1030, by decide⟩
theorem q_X10_left : p_mok MT m_X10_left := p_mok_of (by decide +kernel) (by decide +kernel) ⟨trivial, fr_X10_26, cv_X10_354, trivial, trivial, trivial, trivial, fr_X10_10, trivial, cv_X10_155, trivial, trivial, fr_X10_10, trivial, fr_X10_26, fr_X10_93, trivial, fr_X10_26, fr_X10_117, cv_X10_370, trivial, cv_X10_155, trivial, trivial, trivial⟩
theorem q_X10_needs : p_mok MT m_X10_needs := p_mok_of (by decide +kernel) (by decide +kernel) ⟨trivial, cv_X10_333, trivial, trivial, cv_X10_330, trivial, trivial, trivial, trivial, trivial, trivial, trivial, trivial, cv_X10_337, trivial, fr_X10_352, trivial, trivial, trivial, trivial, trivial, trivial, trivial, trivial, trivial⟩
theorem fr_X10_30 : p_fr RX10 30 10 3 := ⟨RX10, TX10, 9, rfl, uw_X10, by decide, wd_410⟩
theorem vo_X9_takeOver : VOk m_X9_takeOver.1 m_X9_takeOver.2.1 m_X9_takeOver.2.2.1 m_X9_takeOver.2.2.2.1 1 9 := ⟨⟨_, _, rfl⟩, ⟨wd_1043, wd_1044, wd_94, wd_1045⟩, ⟨by decide, by decide, by decide +kernel⟩⟩
theorem cv_X10_373 : p_cv MT RX10 373 125 9 1 := ⟨m_X9_takeOver, t_X9_takeOver, vo_X9_takeOver, wd_1042, by decide⟩
theorem fr_X10_376 : p_fr RX10 376 2 6 := ⟨RX2, TX2, 12, rfl, uw_X2, by decide, wd_272⟩
theorem q_X10_keeps : p_mok MT m_X10_keeps := p_mok_of (by decide +kernel) (by decide +kernel) ⟨trivial, fr_X10_30, trivial, fr_X10_26, cv_X10_373, trivial, trivial, fs_X10_58, trivial, fr_X10_26, fr_X10_93, fr_X10_376, trivial, trivial⟩
theorem fr_X10_58 : p_fr RX10 58 10 8 := ⟨RX10, TX10, 9, rfl, uw_X10, by decide, wd_415⟩
theorem q_X10_back : p_mok MT m_X10_back := p_mok_of (by decide +kernel) (by decide +kernel) ⟨trivial, fr_X10_58, trivial, trivial, trivial, trivial, fr_X10_26, trivial, fr_X10_30, cv_X10_373, trivial, fr_X10_26, fr_X10_93, fr_X10_376, trivial, trivial⟩
theorem fr_X10_379 : p_fr RX10 379 2 11 := ⟨RX2, TX2, 12, rfl, uw_X2, by decide, wd_285⟩
theorem fr_X10_382 : p_fr RX10 382 6 1 := ⟨RX6, TX6, 2, rfl, uw_X6, by decide, wd_127⟩
theorem fr_X10_383 : p_fr RX10 383 8 1 := ⟨RX8, TX8, 2, rfl, uw_X8, by decide, wd_149⟩
theorem q_X10_count : p_mok MT m_X10_count := p_mok_of (by decide +kernel) (by decide +kernel) ⟨trivial, trivial, trivial, fr_X10_26, fr_X10_80, fr_X10_240, trivial, trivial, fr_X10_26, fr_X10_93, fr_X10_304, trivial, trivial, fr_X10_26, fr_X10_93, trivial, cv_X10_270, trivial, trivial, fr_X10_26, fr_X10_93, trivial, cv_X10_270, trivial, trivial, fr_X10_26, fr_X10_93, trivial, cv_X10_270, trivial, trivial, fr_X10_26, fr_X10_93, fr_X10_376, trivial, trivial, fr_X10_26, fr_X10_93, fr_X10_221, trivial, trivial, fr_X10_26, fr_X10_93, fr_X10_184, trivial, trivial, fr_X10_26, fr_X10_93, fr_X10_224, trivial, trivial, fr_X10_26, fr_X10_93, fr_X10_187, trivial, trivial, fr_X10_26, fr_X10_93, fr_X10_379, trivial, trivial, fr_X10_26, fr_X10_80, fr_X10_283, trivial, trivial, fr_X10_26, fr_X10_218, trivial, trivial, fr_X10_10, fr_X10_382, trivial, trivial, fr_X10_19, fr_X10_62, fr_X10_383, trivial, trivial, trivial, trivial⟩
theorem q_X10_isNode : p_mok MT m_X10_isNode := p_mok_of (by decide +kernel) (by decide +kernel) ⟨trivial, trivial, trivial, trivial, trivial, trivial, trivial, trivial, trivial, trivial⟩
theorem q_X10_isStation : p_mok MT m_X10_isStation := p_mok_of (by decide +kernel) (by decide +kernel) ⟨trivial, trivial, trivial, trivial, fr_X10_26, fr_X10_80, fr_X10_240, trivial, trivial, trivial, trivial, trivial, trivial⟩
theorem q_X10_isEngine : p_mok MT m_X10_isEngine := p_mok_of (by decide +kernel) (by decide +kernel) ⟨trivial, trivial, trivial, trivial, fr_X10_26, fr_X10_93, fr_X10_304, trivial, trivial, trivial, trivial, trivial, trivial⟩
theorem q_X10_look : p_mok MT m_X10_look := p_mok_of (by decide +kernel) (by decide +kernel) ⟨trivial, fr_X10_36, trivial, fr_X10_26, fr_X10_80, trivial, fr_X10_26, fr_X10_80, fr_X10_131, trivial, fr_X10_26, fr_X10_111, cv_X10_287, trivial, trivial⟩
theorem q_X10_coverNow : p_mok MT m_X10_coverNow := p_mok_of (by decide +kernel) (by decide +kernel) ⟨trivial, cv_X10_146, trivial, fr_X10_36, trivial, fr_X10_26, fr_X10_93, trivial, fr_X10_26, fr_X10_93, trivial, cv_X10_270, cv_X10_276, trivial, fr_X10_36, trivial, fr_X10_26, fr_X10_80, cv_X10_250, trivial, trivial⟩
theorem q_X10_coverWithout : p_mok MT m_X10_coverWithout := p_mok_of (by decide +kernel) (by decide +kernel) ⟨trivial, trivial, fr_X10_26, fr_X10_93, fr_X10_304, trivial, trivial, trivial, trivial, trivial, fr_X10_36, trivial, fr_X10_26, fr_X10_93, trivial, trivial, trivial, trivial, trivial, cv_X10_276, trivial, fr_X10_36, trivial, fr_X10_26, fr_X10_80, cv_X10_250, trivial, trivial⟩
theorem q_X10_greatestCover : p_mok MT m_X10_greatestCover := p_mok_of (by decide +kernel) (by decide +kernel) ⟨trivial, cv_X10_146, trivial, fr_X10_26, fr_X10_93, trivial, cv_X10_270, cs_X10_310, trivial, trivial, trivial, fr_X10_26, fr_X10_80, fr_X10_240, cs_X10_357, trivial, trivial, fr_X10_36, trivial, fr_X10_26, fr_X10_80, trivial, fr_X10_36, trivial, fr_X10_26, fr_X10_80, trivial, trivial, cv_X10_256, cv_X10_267, trivial, trivial⟩
theorem vo_X9_readyWay : VOk m_X9_readyWay.1 m_X9_readyWay.2.1 m_X9_readyWay.2.2.1 m_X9_readyWay.2.2.2.1 2 9 := ⟨⟨_, _, rfl⟩, ⟨wd_625, wd_626, wd_94, wd_627⟩, ⟨by decide, by decide, by decide +kernel⟩⟩
theorem cv_X10_391 : p_cv MT RX10 391 128 9 2 := ⟨m_X9_readyWay, t_X9_readyWay, vo_X9_readyWay, wd_624, by decide⟩
theorem q_X10_readyThatReach : p_mok MT m_X10_readyThatReach := p_mok_of (by decide +kernel) (by decide +kernel) ⟨trivial, trivial, trivial, trivial, trivial, trivial, fr_X10_26, fr_X10_93, fr_X10_304, trivial, trivial, fr_X10_26, trivial, trivial, cv_X10_391, trivial, fr_X10_26, fr_X10_111, trivial, trivial, trivial, trivial, trivial, trivial, trivial⟩
theorem q_X10_statesOf : p_mok MT m_X10_statesOf := p_mok_of (by decide +kernel) (by decide +kernel) ⟨trivial, trivial, trivial, trivial, trivial, trivial, trivial, fr_X10_26, fr_X10_93, fr_X10_304, trivial, trivial, trivial, cs_X10_310, trivial, trivial, trivial, trivial, cv_X10_307, trivial, trivial, trivial, trivial, trivial, trivial, trivial, trivial⟩
theorem fr_X10_54 : p_fr RX10 54 10 7 := ⟨RX10, TX10, 9, rfl, uw_X10, by decide, wd_414⟩
theorem vo_X4_prepare : VOk m_X4_prepare.1 m_X4_prepare.2.1 m_X4_prepare.2.2.1 m_X4_prepare.2.2.2.1 2 4 := ⟨⟨_, _, rfl⟩, ⟨wd_953, wd_954, wd_105, wd_955⟩, ⟨by decide, by decide, by decide +kernel⟩⟩
theorem cv_X10_395 : p_cv MT RX10 395 90 4 2 := ⟨m_X4_prepare, t_X4_prepare, vo_X4_prepare, wd_952, by decide⟩
theorem q_X10_planned : p_mok MT m_X10_planned := p_mok_of (by decide +kernel) (by decide +kernel) ⟨trivial, fr_X10_54, trivial, trivial, trivial, trivial, trivial, trivial, trivial, trivial, cv_X10_146, trivial, trivial, fr_X10_26, trivial, fr_X10_36, cv_X10_395, trivial, trivial, trivial⟩
theorem q_X10_quotientBits : p_mok MT m_X10_quotientBits := p_mok_of (by decide +kernel) (by decide +kernel) ⟨trivial, trivial, wd_770, trivial, trivial, trivial, trivial, trivial, trivial, trivial, trivial, trivial, trivial, trivial, trivial, trivial, trivial, trivial, trivial, trivial, trivial, trivial, trivial, trivial, trivial, trivial, trivial, trivial, trivial, trivial, trivial, trivial, trivial, trivial, trivial, wd_771, trivial, trivial, trivial, trivial, trivial, trivial, trivial, trivial, trivial, trivial, trivial, trivial, trivial, trivial, trivial, trivial, trivial, trivial, trivial, trivial, trivial, wd_772, trivial, trivial, trivial, trivial⟩
theorem fr_X0_18 : p_fr RX0 18 0 2 := ⟨RX0, TX0, 4, rfl, uw_X0, by decide, wd_396⟩
theorem fr_X0_21 : p_fr RX0 21 0 3 := ⟨RX0, TX0, 4, rfl, uw_X0, by decide, wd_397⟩
theorem fr_X0_25 : p_fr RX0 25 7 0 := ⟨RX7, TX7, 4, rfl, uw_X7, by decide, wd_348⟩
theorem q_X0_prepare : p_mok MT m_X0_prepare := p_mok_of (by decide +kernel) (by decide +kernel) ⟨trivial, fr_X0_18, trivial, trivial, trivial, trivial, trivial, trivial, trivial, trivial, trivial, fr_X0_18, trivial, trivial, trivial, trivial, fr_X0_18, trivial, trivial, trivial, trivial, fr_X0_18, trivial, trivial, trivial, trivial, trivial, trivial, trivial, trivial, trivial, trivial, trivial, trivial, trivial, trivial, trivial, trivial, trivial, trivial, trivial, fr_X0_21, trivial, trivial, trivial, trivial, trivial, trivial, trivial, trivial, trivial, fr_X0_21, trivial, trivial, trivial, trivial, fr_X0_25, trivial, trivial, trivial, trivial, trivial, trivial, trivial, trivial, trivial, trivial, trivial, trivial, trivial, trivial, trivial, trivial, trivial, trivial, trivial⟩
theorem fr_X0_30 : p_fr RX0 30 9 1 := ⟨RX9, TX9, 6, rfl, uw_X9, by decide, wd_317⟩
theorem fr_X0_36 : p_fr RX0 36 2 4 := ⟨RX2, TX2, 12, rfl, uw_X2, by decide, wd_265⟩
theorem fr_X0_42 : p_fr RX0 42 2 1 := ⟨RX2, TX2, 12, rfl, uw_X2, by decide, wd_257⟩
theorem fr_X0_45 : p_fr RX0 45 2 0 := ⟨RX2, TX2, 12, rfl, uw_X2, by decide, wd_251⟩
theorem vo_X0_hitsOf : VOk m_X0_hitsOf.1 m_X0_hitsOf.2.1 m_X0_hitsOf.2.2.1 m_X0_hitsOf.2.2.2.1 1 0 := ⟨⟨_, _, rfl⟩, ⟨wd_873, wd_20, wd_98, wd_874⟩, ⟨by decide, by decide, by decide +kernel⟩⟩
theorem cv_X0_48 : p_cv MT RX0 48 59 0 1 := ⟨m_X0_hitsOf, t_X0_hitsOf, vo_X0_hitsOf, wd_871, by decide⟩
theorem fr_X0_52 : p_fr RX0 52 9 0 := ⟨RX9, TX9, 6, rfl, uw_X9, by decide, wd_313⟩
theorem vo_X0_expected : VOk m_X0_expected.1 m_X0_expected.2.1 m_X0_expected.2.2.1 m_X0_expected.2.2.2.1 2 0 := ⟨⟨_, _, rfl⟩, ⟨wd_877, wd_21, wd_98, wd_878⟩, ⟨by decide, by decide, by decide +kernel⟩⟩
theorem cv_X0_56 : p_cv MT RX0 56 60 0 2 := ⟨m_X0_expected, t_X0_expected, vo_X0_expected, wd_875, by decide⟩
theorem q_X0_expectedNow : p_mok MT m_X0_expectedNow := p_mok_of (by decide +kernel) (by decide +kernel) ⟨trivial, fr_X0_30, trivial, trivial, trivial, trivial, trivial, trivial, trivial, fr_X0_36, trivial, trivial, fr_X0_42, trivial, trivial, trivial, trivial, trivial, trivial, fr_X0_45, trivial, trivial, cv_X0_48, trivial, trivial, trivial, trivial, trivial, trivial, fr_X0_52, trivial, cv_X0_56, trivial, trivial⟩
theorem q_X0_hitsOf : p_mok MT m_X0_hitsOf := p_mok_of (by decide +kernel) (by decide +kernel) ⟨trivial, trivial, trivial, trivial, trivial, trivial, fr_X0_21, trivial, trivial, trivial, trivial, trivial, trivial⟩
theorem fr_X0_60 : p_fr RX0 60 3 0 := ⟨RX3, TX3, 9, rfl, uw_X3, by decide, wd_166⟩
theorem q_X0_expected : p_mok MT m_X0_expected := p_mok_of (by decide +kernel) (by decide +kernel) ⟨trivial, trivial, trivial, trivial, trivial, trivial, trivial, trivial, trivial, trivial, trivial, trivial, trivial, trivial, trivial, trivial, trivial, trivial, trivial, trivial, trivial, fr_X0_60, trivial, trivial, trivial, fr_X0_18, trivial, trivial, trivial, trivial, trivial, trivial, trivial, trivial, trivial, trivial⟩
theorem cs_X0_65 : p_cs MT RX0 65 0 5 0 := ⟨wd_887, wd_496, wd_100, wd_497⟩
theorem cs_X0_71 : p_cs MT RX0 71 0 4 0 := ⟨wd_888, wd_499, wd_100, wd_500⟩
theorem fr_X0_15 : p_fr RX0 15 0 1 := ⟨RX0, TX0, 4, rfl, uw_X0, by decide, wd_395⟩
theorem vo_J_fill : SOk m_J_fill.1 m_J_fill.2.1 m_J_fill.2.2.1 m_J_fill.2.2.2.1 2 := ⟨⟨wd_163, wd_93, wd_164⟩, ⟨by decide, by decide, by decide +kernel⟩⟩
theorem cs_X0_74 : p_cs MT RX0 74 1 1 2 := ⟨m_J_fill, t_J_fill, vo_J_fill, wd_889, by decide⟩
theorem fr_X0_9 : p_fr RX0 9 0 0 := ⟨RX0, TX0, 4, rfl, uw_X0, by decide, wd_393⟩
theorem cs_X0_80 : p_cs MT RX0 80 0 3 0 := ⟨wd_890, wd_541, wd_540, wd_101⟩
theorem fr_X0_86 : p_fr RX0 86 3 8 := ⟨RX3, TX3, 9, rfl, uw_X3, by decide, wd_187⟩
theorem vo_X0_nextRow : VOk m_X0_nextRow.1 m_X0_nextRow.2.1 m_X0_nextRow.2.2.1 m_X0_nextRow.2.2.2.1 2 0 := ⟨⟨_, _, rfl⟩, ⟨wd_893, wd_22, wd_98, wd_894⟩, ⟨by decide, by decide, by decide +kernel⟩⟩
theorem cv_X0_89 : p_cv MT RX0 89 62 0 2 := ⟨m_X0_nextRow, t_X0_nextRow, vo_X0_nextRow, wd_891, by decide⟩
theorem q_X0_seekBest : p_mok MT m_X0_seekBest := p_mok_of (by decide +kernel) (by decide +kernel) ⟨trivial, trivial, trivial, cs_X0_65, cs_X0_71, trivial, trivial, fr_X0_15, trivial, cs_X0_74, trivial, trivial, trivial, trivial, trivial, trivial, trivial, trivial, trivial, trivial, trivial, trivial, trivial, trivial, trivial, trivial, trivial, trivial, trivial, trivial, trivial, fr_X0_15, trivial, trivial, cv_X0_48, trivial, trivial, trivial, trivial, trivial, trivial, trivial, cv_X0_56, trivial, trivial, trivial, trivial, trivial, trivial, trivial, fr_X0_15, trivial, trivial, fr_X0_9, trivial, trivial, cs_X0_80, trivial, trivial, trivial, fr_X0_86, cv_X0_89, trivial, trivial, trivial, trivial, trivial, trivial⟩
theorem q_X0_nextRow : p_mok MT m_X0_nextRow := p_mok_of (by decide +kernel) (by decide +kernel) ⟨trivial, trivial, trivial, trivial, trivial, trivial, trivial, fr_X0_15, trivial, trivial, trivial, trivial, trivial, trivial, trivial, trivial, trivial, trivial, trivial, trivial, trivial, fr_X0_15, trivial, trivial, trivial, trivial, trivial, trivial, trivial, trivial, trivial, trivial, trivial, fr_X0_15, trivial, trivial, trivial, trivial, trivial, trivial, trivial, trivial⟩
theorem fs_X1_9 : p_fs RX1 9 1 0 0 := ⟨RX1, TX1, 4, tyX1, rfl, uw_X1, by decide, wd_370, tyX1_ok, nmX1, rfl, rfl⟩
theorem fr_X1_24 : p_fr RX1 24 9 1 := ⟨RX9, TX9, 6, rfl, uw_X9, by decide, wd_316⟩
theorem fr_X1_30 : p_fr RX1 30 2 4 := ⟨RX2, TX2, 12, rfl, uw_X2, by decide, wd_264⟩
theorem cv_X1_35 : p_cv MT RX1 35 128 9 2 := ⟨m_X9_readyWay, t_X9_readyWay, vo_X9_readyWay, wd_683, by decide⟩
theorem vo_X1_tryBeside : VOk m_X1_tryBeside.1 m_X1_tryBeside.2.1 m_X1_tryBeside.2.2.1 m_X1_tryBeside.2.2.2.1 4 1 := ⟨⟨_, _, rfl⟩, ⟨wd_686, wd_14, wd_97, wd_687⟩, ⟨by decide, by decide, by decide +kernel⟩⟩
theorem cv_X1_39 : p_cv MT RX1 39 64 1 4 := ⟨m_X1_tryBeside, t_X1_tryBeside, vo_X1_tryBeside, wd_684, by decide⟩
theorem fr_X1_9 : p_fr RX1 9 1 0 := ⟨RX1, TX1, 4, rfl, uw_X1, by decide, wd_370⟩
theorem q_X1_find : p_mok MT m_X1_find := p_mok_of (by decide +kernel) (by decide +kernel) ⟨trivial, trivial, fs_X1_9, trivial, trivial, trivial, trivial, fr_X1_24, fr_X1_30, trivial, trivial, trivial, trivial, cv_X1_35, trivial, trivial, trivial, trivial, trivial, trivial, trivial, trivial, trivial, cv_X1_39, trivial, trivial, trivial, fr_X1_9, trivial, trivial, trivial, trivial, trivial, trivial, trivial⟩
theorem vo_X1_isLess : VOk m_X1_isLess.1 m_X1_isLess.2.1 m_X1_isLess.2.2.1 m_X1_isLess.2.2.2.1 2 1 := ⟨⟨_, _, rfl⟩, ⟨wd_690, wd_15, wd_97, wd_691⟩, ⟨by decide, by decide, by decide +kernel⟩⟩
theorem cv_X1_43 : p_cv MT RX1 43 65 1 2 := ⟨m_X1_isLess, t_X1_isLess, vo_X1_isLess, wd_688, by decide⟩
theorem fs_X1_15 : p_fs RX1 15 1 1 0 := ⟨RX1, TX1, 4, tyX1, rfl, uw_X1, by decide, wd_372, tyX1_ok, nmX1, rfl, rfl⟩
theorem cs_X1_47 : p_cs MT RX1 47 0 4 0 := ⟨wd_692, wd_499, wd_100, wd_500⟩
theorem fs_X1_18 : p_fs RX1 18 1 2 0 := ⟨RX1, TX1, 4, tyX1, rfl, uw_X1, by decide, wd_374, tyX1_ok, nmX1, rfl, rfl⟩
theorem fs_X1_21 : p_fs RX1 21 1 3 0 := ⟨RX1, TX1, 4, tyX1, rfl, uw_X1, by decide, wd_376, tyX1_ok, nmX1, rfl, rfl⟩
theorem q_X1_tryBeside : p_mok MT m_X1_tryBeside := p_mok_of (by decide +kernel) (by decide +kernel) ⟨trivial, trivial, trivial, trivial, fr_X1_24, fr_X1_30, trivial, trivial, trivial, trivial, trivial, trivial, trivial, trivial, trivial, cv_X1_35, trivial, trivial, trivial, trivial, trivial, fr_X1_9, trivial, trivial, trivial, trivial, trivial, cv_X1_43, trivial, trivial, trivial, fs_X1_9, trivial, trivial, fs_X1_15, trivial, trivial, trivial, cs_X1_47, fs_X1_18, trivial, trivial, trivial, trivial, fs_X1_21, trivial, trivial, trivial, trivial⟩
theorem fr_X1_21 : p_fr RX1 21 1 3 := ⟨RX1, TX1, 4, rfl, uw_X1, by decide, wd_376⟩
theorem fr_X1_18 : p_fr RX1 18 1 2 := ⟨RX1, TX1, 4, rfl, uw_X1, by decide, wd_374⟩
theorem q_X1_isLess : p_mok MT m_X1_isLess := p_mok_of (by decide +kernel) (by decide +kernel) ⟨trivial, trivial, trivial, trivial, fr_X1_21, trivial, trivial, trivial, trivial, trivial, fr_X1_21, trivial, trivial, trivial, trivial, trivial, trivial, trivial, cs_X1_47, trivial, fr_X1_18, trivial, trivial, trivial, trivial, trivial, trivial⟩
theorem cs_X2_49 : p_cs MT RX2 49 0 5 0 := ⟨wd_546, wd_496, wd_100, wd_497⟩
theorem cs_X2_55 : p_cs MT RX2 55 0 4 0 := ⟨wd_547, wd_499, wd_100, wd_500⟩
theorem fs_X2_24 : p_fs RX2 24 2 4 0 := ⟨RX2, TX2, 12, tyX2, rfl, uw_X2, by decide, wd_263, tyX2_ok, nmX2, rfl, rfl⟩
theorem fr_X2_24 : p_fr RX2 24 2 4 := ⟨RX2, TX2, 12, rfl, uw_X2, by decide, wd_263⟩
theorem fr_X2_9 : p_fr RX2 9 2 0 := ⟨RX2, TX2, 12, rfl, uw_X2, by decide, wd_250⟩
theorem fr_X2_15 : p_fr RX2 15 2 1 := ⟨RX2, TX2, 12, rfl, uw_X2, by decide, wd_256⟩
theorem fr_X2_18 : p_fr RX2 18 2 2 := ⟨RX2, TX2, 12, rfl, uw_X2, by decide, wd_261⟩
theorem fs_X2_28 : p_fs RX2 28 2 5 0 := ⟨RX2, TX2, 12, tyX2, rfl, uw_X2, by decide, wd_270, tyX2_ok, nmX2, rfl, rfl⟩
theorem fs_X2_31 : p_fs RX2 31 2 6 0 := ⟨RX2, TX2, 12, tyX2, rfl, uw_X2, by decide, wd_271, tyX2_ok, nmX2, rfl, rfl⟩
theorem fs_X2_34 : p_fs RX2 34 2 7 0 := ⟨RX2, TX2, 12, tyX2, rfl, uw_X2, by decide, wd_273, tyX2_ok, nmX2, rfl, rfl⟩
theorem fs_X2_37 : p_fs RX2 37 2 8 0 := ⟨RX2, TX2, 12, tyX2, rfl, uw_X2, by decide, wd_276, tyX2_ok, nmX2, rfl, rfl⟩
theorem fs_X2_40 : p_fs RX2 40 2 9 0 := ⟨RX2, TX2, 12, tyX2, rfl, uw_X2, by decide, wd_279, tyX2_ok, nmX2, rfl, rfl⟩
theorem fs_X2_43 : p_fs RX2 43 2 10 0 := ⟨RX2, TX2, 12, tyX2, rfl, uw_X2, by decide, wd_282, tyX2_ok, nmX2, rfl, rfl⟩
theorem fs_X2_46 : p_fs RX2 46 2 11 0 := ⟨RX2, TX2, 12, tyX2, rfl, uw_X2, by decide, wd_284, tyX2_ok, nmX2, rfl, rfl⟩
theorem q_X2_begin : p_mok MT m_X2_begin := p_mok_of (by decide +kernel) (by decide +kernel) ⟨trivial, trivial, trivial, trivial, trivial, trivial, cs_X2_49, cs_X2_49, cs_X2_55, fs_X2_24, trivial, trivial, trivial, trivial, fr_X2_24, trivial, trivial, fr_X2_9, trivial, trivial, trivial, trivial, trivial, trivial, fr_X2_15, trivial, trivial, trivial, trivial, fr_X2_18, trivial, trivial, trivial, trivial, trivial, trivial, trivial, fs_X2_28, trivial, trivial, fs_X2_31, trivial, trivial, fs_X2_34, trivial, trivial, fs_X2_37, trivial, trivial, fs_X2_40, trivial, trivial, fs_X2_43, trivial, trivial, fs_X2_46, trivial, trivial⟩
theorem cs_X2_58 : p_cs MT RX2 58 0 3 0 := ⟨wd_1016, wd_541, wd_540, wd_101⟩
theorem fr_X2_21 : p_fr RX2 21 2 3 := ⟨RX2, TX2, 12, rfl, uw_X2, by decide, wd_262⟩
theorem fr_X2_28 : p_fr RX2 28 2 5 := ⟨RX2, TX2, 12, rfl, uw_X2, by decide, wd_270⟩
theorem fr_X2_31 : p_fr RX2 31 2 6 := ⟨RX2, TX2, 12, rfl, uw_X2, by decide, wd_271⟩
theorem fr_X2_34 : p_fr RX2 34 2 7 := ⟨RX2, TX2, 12, rfl, uw_X2, by decide, wd_273⟩
theorem fr_X2_37 : p_fr RX2 37 2 8 := ⟨RX2, TX2, 12, rfl, uw_X2, by decide, wd_276⟩
theorem fr_X2_40 : p_fr RX2 40 2 9 := ⟨RX2, TX2, 12, rfl, uw_X2, by decide, wd_279⟩
theorem fr_X2_43 : p_fr RX2 43 2 10 := ⟨RX2, TX2, 12, rfl, uw_X2, by decide, wd_282⟩
theorem fr_X2_46 : p_fr RX2 46 2 11 := ⟨RX2, TX2, 12, rfl, uw_X2, by decide, wd_284⟩
theorem q_X2_takeOver : p_mok MT m_X2_takeOver := p_mok_of (by decide +kernel) (by decide +kernel) ⟨trivial, fr_X2_9, trivial, trivial, fr_X2_9, trivial, trivial, cs_X2_58, trivial, fr_X2_15, trivial, trivial, fr_X2_15, trivial, trivial, cs_X2_58, trivial, fr_X2_18, trivial, trivial, fr_X2_18, trivial, trivial, cs_X2_58, trivial, fr_X2_21, trivial, trivial, fr_X2_21, trivial, trivial, cs_X2_58, trivial, trivial, fr_X2_24, fs_X2_24, trivial, trivial, fr_X2_28, fs_X2_28, trivial, trivial, fr_X2_31, fs_X2_31, trivial, trivial, fr_X2_34, fs_X2_34, trivial, trivial, fr_X2_37, fs_X2_37, trivial, trivial, fr_X2_40, fs_X2_40, trivial, trivial, fr_X2_43, fs_X2_43, trivial, trivial, fr_X2_46, fs_X2_46, trivial, trivial⟩
theorem q_X2_nextMinute : p_mok MT m_X2_nextMinute := p_mok_of (by decide +kernel) (by decide +kernel) ⟨trivial, trivial, fr_X2_31, trivial, trivial, fs_X2_31, trivial, trivial, trivial, trivial, trivial, trivial, fr_X2_24, trivial, trivial, fr_X2_15, trivial, trivial, trivial, trivial, fr_X2_18, trivial, trivial, trivial, fr_X2_31, trivial, trivial, fr_X2_15, trivial, trivial, trivial, trivial, trivial, trivial, trivial, trivial, trivial⟩
theorem q_X2_inMode : p_mok MT m_X2_inMode := p_mok_of (by decide +kernel) (by decide +kernel) ⟨trivial, trivial, trivial, trivial, trivial, trivial, fr_X2_24, trivial, trivial, fr_X2_15, trivial, trivial, trivial, trivial, trivial, trivial, trivial, trivial, trivial, trivial, trivial, trivial, trivial, trivial, trivial⟩
theorem q_X2_postedAt : p_mok MT m_X2_postedAt := p_mok_of (by decide +kernel) (by decide +kernel) ⟨trivial, trivial, trivial, trivial, trivial, trivial, fr_X2_24, trivial, trivial, fr_X2_9, trivial, trivial, trivial, trivial, trivial, trivial, trivial, trivial, trivial, trivial, trivial, trivial, trivial, trivial, trivial⟩
theorem q_X2_waitOf : p_mok MT m_X2_waitOf := p_mok_of (by decide +kernel) (by decide +kernel) ⟨trivial, trivial, trivial, trivial, fr_X2_24, trivial, trivial, fr_X2_15, trivial, trivial, trivial, trivial, trivial, trivial, fr_X2_18, trivial, trivial, trivial, fr_X2_31, trivial, trivial, trivial⟩
theorem q_X2_goOut : p_mok MT m_X2_goOut := p_mok_of (by decide +kernel) (by decide +kernel) ⟨trivial, trivial, trivial, trivial, fr_X2_24, trivial, trivial, fr_X2_15, trivial, trivial, trivial, trivial, fr_X2_18, trivial, trivial, fr_X2_31, trivial, trivial, trivial, trivial, trivial, trivial, trivial, trivial, trivial, fr_X2_43, trivial, trivial, fs_X2_43, trivial, trivial⟩
theorem vo_X2_remember : VOk m_X2_remember.1 m_X2_remember.2.1 m_X2_remember.2.2.1 m_X2_remember.2.2.2.1 0 2 := ⟨⟨_, _, rfl⟩, ⟨wd_1014, wd_29, wd_95, wd_1015⟩, ⟨by decide, by decide, by decide +kernel⟩⟩
theorem cv_X2_64 : p_cv MT RX2 64 74 2 0 := ⟨m_X2_remember, t_X2_remember, vo_X2_remember, wd_1012, by decide⟩
theorem q_X2_move : p_mok MT m_X2_move := p_mok_of (by decide +kernel) (by decide +kernel) ⟨trivial, trivial, trivial, trivial, fr_X2_24, trivial, trivial, fr_X2_9, trivial, trivial, trivial, trivial, fr_X2_15, trivial, trivial, trivial, trivial, trivial, trivial, trivial, trivial, fr_X2_18, trivial, trivial, fr_X2_31, trivial, trivial, trivial, trivial, trivial, fr_X2_46, trivial, trivial, fs_X2_46, trivial, cv_X2_64, trivial, trivial⟩
theorem q_X2_remember : p_mok MT m_X2_remember := p_mok_of (by decide +kernel) (by decide +kernel) ⟨trivial, fr_X2_28, trivial, trivial, trivial, fr_X2_21, trivial, trivial, fr_X2_21, trivial, trivial, cs_X2_58, trivial, trivial, fs_X2_28, trivial, fr_X2_21, trivial, fr_X2_28, trivial, fr_X2_31, trivial, trivial, trivial, fr_X2_28, trivial, trivial, fs_X2_28, trivial, trivial⟩
theorem q_X2_movedLately : p_mok MT m_X2_movedLately := p_mok_of (by decide +kernel) (by decide +kernel) ⟨trivial, trivial, trivial, trivial, trivial, trivial, fr_X2_28, trivial, trivial, fr_X2_21, trivial, trivial, trivial, fr_X2_31, trivial, trivial, trivial, trivial, trivial, trivial, trivial, trivial, trivial⟩
theorem q_X2_waitForMove : p_mok MT m_X2_waitForMove := p_mok_of (by decide +kernel) (by decide +kernel) ⟨trivial, fr_X2_28, trivial, trivial, trivial, trivial, trivial, trivial, trivial, trivial, trivial, trivial, trivial, trivial, trivial, fr_X2_21, trivial, trivial, trivial, trivial, trivial, fr_X2_31, trivial, trivial, trivial⟩
theorem fr_X3_9 : p_fr RX3 9 3 0 := ⟨RX3, TX3, 9, rfl, uw_X3, by decide, wd_165⟩
theorem cs_X3_41 : p_cs MT RX3 41 1 1 2 := ⟨m_J_fill, t_J_fill, vo_J_fill, wd_162, by decide⟩
theorem fs_X3_34 : p_fs RX3 34 3 7 0 := ⟨RX3, TX3, 9, tyX3, rfl, uw_X3, by decide, wd_182, tyX3_ok, nmX3, rfl, rfl⟩
theorem fs_X3_38 : p_fs RX3 38 3 8 0 := ⟨RX3, TX3, 9, tyX3, rfl, uw_X3, by decide, wd_184, tyX3_ok, nmX3, rfl, rfl⟩
theorem q_X3_empty : p_mok MT m_X3_empty := p_mok_of (by decide +kernel) (by decide +kernel) ⟨trivial, fr_X3_9, trivial, cs_X3_41, trivial, trivial, fs_X3_34, trivial, trivial, fs_X3_38, trivial, trivial⟩
theorem cs_X3_47 : p_cs MT RX3 47 0 3 0 := ⟨wd_539, wd_541, wd_540, wd_101⟩
theorem fr_X3_28 : p_fr RX3 28 3 5 := ⟨RX3, TX3, 9, rfl, uw_X3, by decide, wd_177⟩
theorem fr_X3_31 : p_fr RX3 31 3 6 := ⟨RX3, TX3, 9, rfl, uw_X3, by decide, wd_180⟩
theorem fr_X3_34 : p_fr RX3 34 3 7 := ⟨RX3, TX3, 9, rfl, uw_X3, by decide, wd_182⟩
theorem fr_X3_38 : p_fr RX3 38 3 8 := ⟨RX3, TX3, 9, rfl, uw_X3, by decide, wd_184⟩
theorem fr_X3_15 : p_fr RX3 15 3 1 := ⟨RX3, TX3, 9, rfl, uw_X3, by decide, wd_170⟩
theorem fr_X3_18 : p_fr RX3 18 3 2 := ⟨RX3, TX3, 9, rfl, uw_X3, by decide, wd_172⟩
theorem fr_X3_21 : p_fr RX3 21 3 3 := ⟨RX3, TX3, 9, rfl, uw_X3, by decide, wd_174⟩
theorem fr_X3_24 : p_fr RX3 24 3 4 := ⟨RX3, TX3, 9, rfl, uw_X3, by decide, wd_175⟩
theorem q_X3_takeOver : p_mok MT m_X3_takeOver := p_mok_of (by decide +kernel) (by decide +kernel) ⟨trivial, fr_X3_9, trivial, trivial, fr_X3_9, trivial, trivial, cs_X3_47, trivial, fr_X3_28, trivial, trivial, fr_X3_28, trivial, trivial, cs_X3_47, trivial, fr_X3_31, trivial, trivial, fr_X3_31, trivial, trivial, cs_X3_47, trivial, trivial, fr_X3_34, fs_X3_34, trivial, trivial, fr_X3_38, fs_X3_38, trivial, trivial, trivial, trivial, trivial, trivial, fr_X3_15, trivial, trivial, fr_X3_15, trivial, trivial, trivial, trivial, fr_X3_18, trivial, trivial, fr_X3_18, trivial, trivial, trivial, trivial, fr_X3_21, trivial, trivial, fr_X3_21, trivial, trivial, trivial, trivial, fr_X3_24, trivial, trivial, fr_X3_24, trivial, trivial, trivial, trivial, trivial, trivial, trivial⟩
theorem cs_X3_53 : p_cs MT RX3 53 0 5 0 := ⟨wd_495, wd_496, wd_100, wd_497⟩
theorem cs_X3_59 : p_cs MT RX3 59 0 4 0 := ⟨wd_498, wd_499, wd_100, wd_500⟩
theorem q_X3_addRoad : p_mok MT m_X3_addRoad := p_mok_of (by decide +kernel) (by decide +kernel) ⟨trivial, fr_X3_34, trivial, trivial, fr_X3_34, trivial, trivial, trivial, fr_X3_15, trivial, fr_X3_34, trivial, trivial, cs_X3_53, trivial, trivial, fr_X3_18, trivial, fr_X3_34, trivial, trivial, cs_X3_59, trivial, trivial, fr_X3_21, trivial, fr_X3_34, trivial, trivial, trivial, fr_X3_24, trivial, fr_X3_34, trivial, trivial, trivial, trivial, fr_X3_34, trivial, trivial, fs_X3_34, trivial, trivial⟩
theorem q_X3_roadOf : p_mok MT m_X3_roadOf := p_mok_of (by decide +kernel) (by decide +kernel) ⟨trivial, trivial, cs_X3_53, trivial, trivial, trivial, cs_X3_59, trivial, trivial, trivial, trivial, trivial, fr_X3_34, trivial, trivial, fr_X3_15, trivial, trivial, trivial, trivial, trivial, fr_X3_18, trivial, trivial, trivial, trivial, trivial, trivial, trivial, trivial, trivial, trivial, trivial⟩
theorem q_X3_shutRoads : p_mok MT m_X3_shutRoads := p_mok_of (by decide +kernel) (by decide +kernel) ⟨trivial, trivial, trivial, trivial, trivial, trivial, fr_X3_34, trivial, trivial, fr_X3_24, trivial, trivial, trivial, trivial, trivial, trivial, trivial, trivial, trivial⟩
theorem vo_X3_shorten : SOk m_X3_shorten.1 m_X3_shorten.2.1 m_X3_shorten.2.2.1 m_X3_shorten.2.2.2.1 2 := ⟨⟨wd_533, wd_92, wd_534⟩, ⟨by decide, by decide, by decide +kernel⟩⟩
theorem cs_X3_62 : p_cs MT RX3 62 83 1 2 := ⟨m_X3_shorten, t_X3_shorten, vo_X3_shorten, wd_532, by decide⟩
theorem q_X3_measure : p_mok MT m_X3_measure := p_mok_of (by decide +kernel) (by decide +kernel) ⟨trivial, trivial, trivial, trivial, trivial, trivial, trivial, cs_X3_41, trivial, trivial, trivial, trivial, trivial, trivial, trivial, trivial, trivial, trivial, trivial, trivial, trivial, trivial, trivial, trivial, trivial, trivial, trivial, fr_X3_34, trivial, trivial, fr_X3_24, trivial, trivial, trivial, trivial, trivial, trivial, trivial, trivial, trivial, fr_X3_15, trivial, trivial, trivial, trivial, fr_X3_18, trivial, trivial, trivial, trivial, fr_X3_21, trivial, trivial, trivial, trivial, trivial, trivial, fr_X3_18, trivial, trivial, trivial, trivial, fr_X3_15, trivial, trivial, trivial, trivial, fr_X3_21, trivial, trivial, trivial, trivial, trivial, trivial, trivial, trivial, trivial, trivial, trivial, trivial, cs_X3_62, trivial, trivial, trivial, trivial⟩
theorem q_X3_shorten : p_mok MT m_X3_shorten := p_mok_of (by decide +kernel) (by decide +kernel) ⟨trivial, trivial, trivial, trivial, trivial, trivial, trivial, trivial, trivial, trivial, trivial, trivial, trivial, trivial, trivial, trivial, trivial, trivial, trivial, trivial, trivial, trivial, trivial, trivial, trivial, trivial, trivial, trivial, trivial, trivial, trivial, trivial, trivial, trivial, trivial, trivial, trivial, trivial, trivial, trivial, trivial, trivial, trivial, trivial, trivial, trivial, trivial, trivial, trivial, trivial, trivial, trivial, trivial, trivial, trivial, trivial, trivial, trivial, trivial, trivial, trivial, trivial⟩
theorem cs_X3_65 : p_cs MT RX3 65 46 2 1 := ⟨m_X10_isNode, t_X10_isNode, vo_X10_isNode, List.mem_of_getElem? (i := 0) rfl, by decide⟩
theorem q_X3_wayOf : p_mok MT m_X3_wayOf := p_mok_of (by decide +kernel) (by decide +kernel) ⟨trivial, cs_X3_65, trivial, trivial, cs_X3_65, trivial, trivial, fr_X3_28, trivial, trivial, trivial, trivial, trivial, trivial, trivial, trivial, trivial, trivial⟩
theorem cv_X3_69 : p_cv MT RX3 69 86 3 1 := ⟨m_X3_placeOf, t_X3_placeOf, vo_X3_placeOf, wd_965, by decide⟩
theorem cv_X3_73 : p_cv MT RX3 73 84 3 2 := ⟨m_X3_wayOf, t_X3_wayOf, vo_X3_wayOf, wd_634, by decide⟩
theorem q_X3_wayOfStations : p_mok MT m_X3_wayOfStations := p_mok_of (by decide +kernel) (by decide +kernel) ⟨trivial, trivial, trivial, cv_X3_69, trivial, trivial, cv_X3_69, cv_X3_73, trivial, trivial⟩
theorem q_X3_placeOf : p_mok MT m_X3_placeOf := p_mok_of (by decide +kernel) (by decide +kernel) ⟨trivial, trivial, trivial, trivial, fr_X3_38, trivial, trivial, fr_X3_31, trivial, trivial, trivial, trivial, trivial, trivial⟩
theorem q_X3_isStationAt : p_mok MT m_X3_isStationAt := p_mok_of (by decide +kernel) (by decide +kernel) ⟨trivial, trivial, trivial, trivial, fr_X3_38, trivial, trivial, fr_X3_31, trivial, trivial, trivial, trivial, trivial, trivial, trivial, trivial, trivial, trivial, trivial⟩
theorem q_X3_nearestStation : p_mok MT m_X3_nearestStation := p_mok_of (by decide +kernel) (by decide +kernel) ⟨trivial, trivial, trivial, trivial, trivial, trivial, trivial, trivial, fr_X3_38, trivial, trivial, trivial, fr_X3_31, trivial, trivial, trivial, cv_X3_73, trivial, trivial, trivial, trivial, trivial, trivial, trivial, trivial, trivial, trivial, trivial, trivial, trivial⟩
theorem q_X3_weigh : p_mok MT m_X3_weigh := p_mok_of (by decide +kernel) (by decide +kernel) ⟨trivial, trivial, trivial, trivial, trivial, trivial, trivial, trivial, trivial, trivial, trivial, trivial, trivial, trivial, trivial, trivial, fr_X3_9, trivial, trivial, trivial, trivial, trivial, trivial, trivial, trivial, trivial⟩
theorem vo_X4_gather : VOk m_X4_gather.1 m_X4_gather.2.1 m_X4_gather.2.2.1 m_X4_gather.2.2.2.1 1 4 := ⟨⟨_, _, rfl⟩, ⟨wd_958, wd_25, wd_105, wd_959⟩, ⟨by decide, by decide, by decide +kernel⟩⟩
theorem cv_X4_40 : p_cv MT RX4 40 91 4 1 := ⟨m_X4_gather, t_X4_gather, vo_X4_gather, wd_956, by decide⟩
theorem fr_X4_37 : p_fr RX4 37 4 8 := ⟨RX4, TX4, 9, rfl, uw_X4, by decide, wd_932⟩
theorem fr_X4_34 : p_fr RX4 34 4 7 := ⟨RX4, TX4, 9, rfl, uw_X4, by decide, wd_931⟩
theorem vo_X4_indexOf : SOk m_X4_indexOf.1 m_X4_indexOf.2.1 m_X4_indexOf.2.2.1 m_X4_indexOf.2.2.2.1 3 := ⟨⟨wd_967, wd_105, wd_968⟩, ⟨by decide, by decide, by decide +kernel⟩⟩
theorem cs_X4_44 : p_cs MT RX4 44 94 1 3 := ⟨m_X4_indexOf, t_X4_indexOf, vo_X4_indexOf, wd_966, by decide⟩
theorem fr_X4_48 : p_fr RX4 48 9 0 := ⟨RX9, TX9, 6, rfl, uw_X9, by decide, wd_312⟩
theorem cv_X4_54 : p_cv MT RX4 54 119 7 2 := ⟨m_X7_coverOf, t_X7_coverOf, vo_X7_coverOf, wd_969, by decide⟩
theorem fr_X4_21 : p_fr RX4 21 4 3 := ⟨RX4, TX4, 9, rfl, uw_X4, by decide, wd_924⟩
theorem vo_X4_fill : VOk m_X4_fill.1 m_X4_fill.2.1 m_X4_fill.2.2.1 m_X4_fill.2.2.2.1 2 4 := ⟨⟨_, _, rfl⟩, ⟨wd_973, wd_26, wd_105, wd_974⟩, ⟨by decide, by decide, by decide +kernel⟩⟩
theorem cv_X4_61 : p_cv MT RX4 61 92 4 2 := ⟨m_X4_fill, t_X4_fill, vo_X4_fill, wd_971, by decide⟩
theorem q_X4_prepare : p_mok MT m_X4_prepare := p_mok_of (by decide +kernel) (by decide +kernel) ⟨trivial, trivial, cv_X4_40, trivial, trivial, trivial, trivial, trivial, fr_X4_37, trivial, trivial, trivial, fr_X4_34, trivial, trivial, trivial, cs_X4_44, trivial, trivial, fr_X4_48, trivial, cv_X4_54, wd_970, trivial, trivial, trivial, trivial, trivial, trivial, trivial, trivial, fr_X4_21, trivial, trivial, trivial, trivial, trivial, trivial, trivial, trivial, trivial, cv_X4_61, trivial, trivial, trivial, trivial, trivial, trivial⟩
theorem fr_X4_65 : p_fr RX4 65 3 8 := ⟨RX3, TX3, 9, rfl, uw_X3, by decide, wd_185⟩
theorem cs_X4_68 : p_cs MT RX4 68 0 5 0 := ⟨wd_960, wd_496, wd_100, wd_497⟩
theorem fs_X4_37 : p_fs RX4 37 4 8 0 := ⟨RX4, TX4, 9, tyX4, rfl, uw_X4, by decide, wd_932, tyX4_ok, nmX4, rfl, rfl⟩
theorem fs_X4_21 : p_fs RX4 21 4 3 0 := ⟨RX4, TX4, 9, tyX4, rfl, uw_X4, by decide, wd_924, tyX4_ok, nmX4, rfl, rfl⟩
theorem fr_X4_74 : p_fr RX4 74 9 1 := ⟨RX9, TX9, 6, rfl, uw_X9, by decide, wd_318⟩
theorem fr_X4_78 : p_fr RX4 78 2 4 := ⟨RX2, TX2, 12, rfl, uw_X2, by decide, wd_266⟩
theorem fr_X4_81 : p_fr RX4 81 2 1 := ⟨RX2, TX2, 12, rfl, uw_X2, by decide, wd_258⟩
theorem fr_X4_9 : p_fr RX4 9 4 0 := ⟨RX4, TX4, 9, rfl, uw_X4, by decide, wd_918⟩
theorem fr_X4_15 : p_fr RX4 15 4 1 := ⟨RX4, TX4, 9, rfl, uw_X4, by decide, wd_920⟩
theorem fr_X4_84 : p_fr RX4 84 2 0 := ⟨RX2, TX2, 12, rfl, uw_X2, by decide, wd_252⟩
theorem fr_X4_31 : p_fr RX4 31 4 6 := ⟨RX4, TX4, 9, rfl, uw_X4, by decide, wd_930⟩
theorem cv_X4_85 : p_cv MT RX4 85 85 3 2 := ⟨m_X3_wayOfStations, t_X3_wayOfStations, vo_X3_wayOfStations, wd_961, by decide⟩
theorem q_X4_gather : p_mok MT m_X4_gather := p_mok_of (by decide +kernel) (by decide +kernel) ⟨trivial, trivial, fr_X4_48, fr_X4_65, trivial, cs_X4_68, fs_X4_37, trivial, trivial, fs_X4_21, trivial, trivial, trivial, trivial, fr_X4_74, fr_X4_78, trivial, trivial, fr_X4_74, fr_X4_81, trivial, trivial, trivial, trivial, fr_X4_21, trivial, trivial, trivial, fr_X4_9, trivial, fr_X4_21, trivial, trivial, trivial, fr_X4_15, trivial, fr_X4_21, trivial, fr_X4_74, fr_X4_84, trivial, trivial, trivial, trivial, trivial, trivial, trivial, fr_X4_37, trivial, trivial, fr_X4_31, trivial, fr_X4_21, trivial, trivial, trivial, trivial, trivial, fr_X4_48, trivial, fr_X4_15, trivial, fr_X4_21, trivial, trivial, cv_X4_85, trivial, trivial, trivial, trivial, trivial, fr_X4_21, trivial, trivial, fs_X4_21, trivial, trivial, trivial, trivial⟩
theorem cs_X4_88 : p_cs MT RX4 88 0 1 1 := ⟨m_J_bitCount, t_J_bitCount, vo_J_bitCount, wd_975, by decide⟩
theorem vo_X4_worthOf : VOk m_X4_worthOf.1 m_X4_worthOf.2.1 m_X4_worthOf.2.2.1 m_X4_worthOf.2.2.2.1 4 4 := ⟨⟨_, _, rfl⟩, ⟨wd_979, wd_27, wd_105, wd_980⟩, ⟨by decide, by decide, by decide +kernel⟩⟩
theorem cv_X4_95 : p_cv MT RX4 95 93 4 4 := ⟨m_X4_worthOf, t_X4_worthOf, vo_X4_worthOf, wd_977, by decide⟩
theorem cs_X4_99 : p_cs MT RX4 99 0 4 0 := ⟨wd_985, wd_499, wd_100, wd_500⟩
theorem q_X4_fill : p_mok MT m_X4_fill := p_mok_of (by decide +kernel) (by decide +kernel) ⟨trivial, trivial, trivial, trivial, trivial, fr_X4_37, trivial, trivial, trivial, cs_X4_88, trivial, fr_X4_21, trivial, trivial, trivial, wd_976, trivial, trivial, trivial, trivial, trivial, fr_X4_37, trivial, trivial, trivial, trivial, trivial, trivial, trivial, cv_X4_95, cs_X4_99, trivial, trivial, trivial, trivial, fr_X4_34, trivial, trivial, trivial, cs_X4_44, trivial, trivial, trivial, trivial, trivial, trivial⟩
theorem cv_X4_102 : p_cv MT RX4 102 95 4 2 := ⟨m_X4_wayTo, t_X4_wayTo, vo_X4_wayTo, wd_981, by decide⟩
theorem q_X4_worthOf : p_mok MT m_X4_worthOf := p_mok_of (by decide +kernel) (by decide +kernel) ⟨trivial, fr_X4_21, trivial, trivial, trivial, trivial, trivial, trivial, trivial, trivial, wd_976, trivial, trivial, trivial, trivial, trivial, trivial, trivial, trivial, fr_X4_15, trivial, trivial, trivial, trivial, trivial, fr_X4_34, trivial, trivial, trivial, trivial, trivial, trivial, trivial, cs_X4_68, trivial, cs_X4_44, trivial, trivial, trivial, trivial, trivial, cv_X4_102, trivial, trivial, trivial, trivial, trivial, trivial, wd_976, trivial, trivial, fr_X4_34, trivial, trivial, trivial, trivial, trivial, trivial, trivial, cs_X4_44, trivial, trivial, trivial, trivial, trivial, trivial, trivial⟩
theorem q_X4_indexOf : p_mok MT m_X4_indexOf := p_mok_of (by decide +kernel) (by decide +kernel) ⟨trivial, trivial, trivial, trivial, trivial, trivial, trivial, trivial, trivial, trivial, trivial, trivial, trivial, trivial, trivial, trivial, trivial, trivial, trivial, trivial, trivial, trivial, trivial, trivial⟩
theorem q_X4_wayTo : p_mok MT m_X4_wayTo := p_mok_of (by decide +kernel) (by decide +kernel) ⟨trivial, trivial, trivial, trivial, fr_X4_21, trivial, trivial, trivial, trivial, trivial, fr_X4_37, trivial, trivial, trivial, trivial, fr_X4_31, trivial, trivial, trivial, trivial, trivial, trivial, trivial, trivial⟩
theorem fs_X4_25 : p_fs RX4 25 4 4 0 := ⟨RX4, TX4, 9, tyX4, rfl, uw_X4, by decide, wd_926, tyX4_ok, nmX4, rfl, rfl⟩
theorem vo_X4_firstBest : VOk m_X4_firstBest.1 m_X4_firstBest.2.1 m_X4_firstBest.2.2.1 m_X4_firstBest.2.2.2.1 3 4 := ⟨⟨_, _, rfl⟩, ⟨wd_992, wd_28, wd_105, wd_993⟩, ⟨by decide, by decide, by decide +kernel⟩⟩
theorem cv_X4_105 : p_cv MT RX4 105 97 4 3 := ⟨m_X4_firstBest, t_X4_firstBest, vo_X4_firstBest, wd_990, by decide⟩
theorem fr_X4_25 : p_fr RX4 25 4 4 := ⟨RX4, TX4, 9, rfl, uw_X4, by decide, wd_926⟩
theorem fr_X4_18 : p_fr RX4 18 4 2 := ⟨RX4, TX4, 9, rfl, uw_X4, by decide, wd_922⟩
theorem fs_X4_28 : p_fs RX4 28 4 5 0 := ⟨RX4, TX4, 9, tyX4, rfl, uw_X4, by decide, wd_928, tyX4_ok, nmX4, rfl, rfl⟩
theorem q_X4_choose : p_mok MT m_X4_choose := p_mok_of (by decide +kernel) (by decide +kernel) ⟨trivial, trivial, trivial, fr_X4_21, cs_X4_68, cs_X4_99, trivial, trivial, trivial, trivial, trivial, fs_X4_25, trivial, trivial, trivial, trivial, fr_X4_21, trivial, trivial, fr_X4_21, trivial, trivial, trivial, trivial, trivial, trivial, trivial, cv_X4_105, trivial, trivial, trivial, fr_X4_15, trivial, trivial, trivial, trivial, trivial, fr_X4_25, trivial, trivial, trivial, cv_X4_102, trivial, fs_X4_25, trivial, trivial, fr_X4_18, trivial, trivial, trivial, trivial, trivial, trivial, trivial, trivial, trivial, trivial, trivial, trivial, trivial, trivial, cs_X4_68, cs_X4_99, trivial, trivial, trivial, trivial, trivial, fr_X4_34, trivial, trivial, trivial, cs_X4_44, trivial, wd_970, trivial, fs_X4_28, trivial, trivial⟩
theorem q_X4_firstBest : p_mok MT m_X4_firstBest := p_mok_of (by decide +kernel) (by decide +kernel) ⟨trivial, fr_X4_34, trivial, trivial, trivial, cs_X4_44, trivial, trivial, trivial, trivial, trivial, trivial, fr_X4_37, trivial, trivial, trivial, trivial, trivial, trivial, cv_X4_95, trivial, trivial, trivial, trivial, trivial, trivial, trivial, trivial, trivial⟩
theorem fs_X5_33 : p_fs RX5 33 5 4 0 := ⟨RX5, TX5, 7, tyX5, rfl, uw_X5, by decide, wd_218, tyX5_ok, nmX5, rfl, rfl⟩
theorem fs_X5_36 : p_fs RX5 36 5 5 0 := ⟨RX5, TX5, 7, tyX5, rfl, uw_X5, by decide, wd_219, tyX5_ok, nmX5, rfl, rfl⟩
theorem fs_X5_39 : p_fs RX5 39 5 6 0 := ⟨RX5, TX5, 7, tyX5, rfl, uw_X5, by decide, wd_220, tyX5_ok, nmX5, rfl, rfl⟩
theorem fs_X5_29 : p_fs RX5 29 5 3 0 := ⟨RX5, TX5, 7, tyX5, rfl, uw_X5, by decide, wd_216, tyX5_ok, nmX5, rfl, rfl⟩
theorem fr_X5_21 : p_fr RX5 21 5 1 := ⟨RX5, TX5, 7, rfl, uw_X5, by decide, wd_212⟩
theorem vo_X3_empty : VOk m_X3_empty.1 m_X3_empty.2.1 m_X3_empty.2.2.1 m_X3_empty.2.2.2.1 0 3 := ⟨⟨_, _, rfl⟩, ⟨wd_460, wd_461, wd_92, wd_462⟩, ⟨by decide, by decide, by decide +kernel⟩⟩
theorem cv_X5_42 : p_cv MT RX5 42 77 3 0 := ⟨m_X3_empty, t_X3_empty, vo_X3_empty, wd_459, by decide⟩
theorem fr_X5_12 : p_fr RX5 12 5 0 := ⟨RX5, TX5, 7, rfl, uw_X5, by decide, wd_210⟩
theorem fr_X5_45 : p_fr RX5 45 8 1 := ⟨RX8, TX8, 2, rfl, uw_X8, by decide, wd_148⟩
theorem vo_X5_readLine : VOk m_X5_readLine.1 m_X5_readLine.2.1 m_X5_readLine.2.2.1 m_X5_readLine.2.2.2.1 0 5 := ⟨⟨_, _, rfl⟩, ⟨wd_465, wd_0, wd_90, wd_466⟩, ⟨by decide, by decide, by decide +kernel⟩⟩
theorem cv_X5_48 : p_cv MT RX5 48 99 5 0 := ⟨m_X5_readLine, t_X5_readLine, vo_X5_readLine, wd_463, by decide⟩
theorem fr_X5_36 : p_fr RX5 36 5 5 := ⟨RX5, TX5, 7, rfl, uw_X5, by decide, wd_219⟩
theorem fr_X5_33 : p_fr RX5 33 5 4 := ⟨RX5, TX5, 7, rfl, uw_X5, by decide, wd_218⟩
theorem vo_X5_take : VOk m_X5_take.1 m_X5_take.2.1 m_X5_take.2.2.1 m_X5_take.2.2.2.1 1 5 := ⟨⟨_, _, rfl⟩, ⟨wd_489, wd_5, wd_90, wd_490⟩, ⟨by decide, by decide, by decide +kernel⟩⟩
theorem cv_X5_51 : p_cv MT RX5 51 106 5 1 := ⟨m_X5_take, t_X5_take, vo_X5_take, wd_487, by decide⟩
theorem fr_X5_55 : p_fr RX5 55 3 5 := ⟨RX3, TX3, 9, rfl, uw_X3, by decide, wd_178⟩
theorem cv_X5_58 : p_cv MT RX5 58 82 3 2 := ⟨m_X3_measure, t_X3_measure, vo_X3_measure, wd_528, by decide⟩
theorem q_X5_read : p_mok MT m_X5_read := p_mok_of (by decide +kernel) (by decide +kernel) ⟨trivial, trivial, fs_X5_33, trivial, trivial, fs_X5_36, trivial, trivial, fs_X5_39, trivial, trivial, fs_X5_29, trivial, fr_X5_21, cv_X5_42, trivial, trivial, trivial, fr_X5_12, fr_X5_45, trivial, trivial, trivial, trivial, trivial, trivial, trivial, trivial, trivial, trivial, trivial, cv_X5_48, trivial, trivial, fr_X5_36, trivial, trivial, trivial, fr_X5_33, trivial, fr_X5_12, fr_X5_45, trivial, trivial, trivial, trivial, trivial, trivial, trivial, trivial, trivial, cv_X5_51, trivial, trivial, fr_X5_21, trivial, fr_X5_21, fr_X5_55, trivial, cv_X5_58, trivial, fr_X5_36, trivial, trivial, trivial, trivial, trivial, trivial, fr_X5_36, trivial, trivial, trivial⟩
theorem vo_X8_signAt : VOk m_X8_signAt.1 m_X8_signAt.2.1 m_X8_signAt.2.2.1 m_X8_signAt.2.2.2.1 1 8 := ⟨⟨_, _, rfl⟩, ⟨wd_468, wd_469, wd_91, wd_470⟩, ⟨by decide, by decide, by decide +kernel⟩⟩
theorem cv_X5_62 : p_cv MT RX5 62 124 8 1 := ⟨m_X8_signAt, t_X8_signAt, vo_X8_signAt, wd_467, by decide⟩
theorem vo_X5_readRoad : VOk m_X5_readRoad.1 m_X5_readRoad.2.1 m_X5_readRoad.2.2.1 m_X5_readRoad.2.2.2.1 0 5 := ⟨⟨_, _, rfl⟩, ⟨wd_473, wd_1, wd_90, wd_474⟩, ⟨by decide, by decide, by decide +kernel⟩⟩
theorem cv_X5_66 : p_cv MT RX5 66 100 5 0 := ⟨m_X5_readRoad, t_X5_readRoad, vo_X5_readRoad, wd_471, by decide⟩
theorem vo_X5_readWeight : VOk m_X5_readWeight.1 m_X5_readWeight.2.1 m_X5_readWeight.2.2.1 m_X5_readWeight.2.2.2.1 0 5 := ⟨⟨_, _, rfl⟩, ⟨wd_507, wd_6, wd_90, wd_508⟩, ⟨by decide, by decide, by decide +kernel⟩⟩
theorem cv_X5_69 : p_cv MT RX5 69 101 5 0 := ⟨m_X5_readWeight, t_X5_readWeight, vo_X5_readWeight, wd_505, by decide⟩
theorem vo_X5_readStations : VOk m_X5_readStations.1 m_X5_readStations.2.1 m_X5_readStations.2.2.1 m_X5_readStations.2.2.2.1 0 5 := ⟨⟨_, _, rfl⟩, ⟨wd_514, wd_7, wd_90, wd_515⟩, ⟨by decide, by decide, by decide +kernel⟩⟩
theorem cv_X5_72 : p_cv MT RX5 72 102 5 0 := ⟨m_X5_readStations, t_X5_readStations, vo_X5_readStations, wd_512, by decide⟩
theorem vo_X5_readEngines : VOk m_X5_readEngines.1 m_X5_readEngines.2.1 m_X5_readEngines.2.2.1 m_X5_readEngines.2.2.2.1 0 5 := ⟨⟨_, _, rfl⟩, ⟨wd_526, wd_9, wd_90, wd_527⟩, ⟨by decide, by decide, by decide +kernel⟩⟩
theorem cv_X5_75 : p_cv MT RX5 75 103 5 0 := ⟨m_X5_readEngines, t_X5_readEngines, vo_X5_readEngines, wd_524, by decide⟩
theorem vo_X5_refuse : VOk m_X5_refuse.1 m_X5_refuse.2.1 m_X5_refuse.2.2.1 m_X5_refuse.2.2.2.1 1 5 := ⟨⟨_, _, rfl⟩, ⟨wd_485, wd_4, wd_90, wd_486⟩, ⟨by decide, by decide, by decide +kernel⟩⟩
theorem cv_X5_78 : p_cv MT RX5 78 108 5 1 := ⟨m_X5_refuse, t_X5_refuse, vo_X5_refuse, wd_483, by decide⟩
theorem q_X5_readLine : p_mok MT m_X5_readLine := p_mok_of (by decide +kernel) (by decide +kernel) ⟨trivial, fr_X5_36, trivial, trivial, trivial, trivial, fr_X5_12, trivial, fr_X5_33, cv_X5_62, trivial, trivial, trivial, fr_X5_33, trivial, trivial, fs_X5_33, trivial, cv_X5_66, trivial, trivial, trivial, fr_X5_33, trivial, trivial, fs_X5_33, trivial, cv_X5_69, trivial, trivial, cv_X5_72, trivial, trivial, cv_X5_75, trivial, trivial, trivial, fr_X5_33, cv_X5_78, trivial, trivial⟩
theorem vo_X5_takeNumber : VOk m_X5_takeNumber.1 m_X5_takeNumber.2.1 m_X5_takeNumber.2.2.1 m_X5_takeNumber.2.2.2.1 2 5 := ⟨⟨_, _, rfl⟩, ⟨wd_477, wd_2, wd_90, wd_478⟩, ⟨by decide, by decide, by decide +kernel⟩⟩
theorem cv_X5_81 : p_cv MT RX5 81 107 5 2 := ⟨m_X5_takeNumber, t_X5_takeNumber, vo_X5_takeNumber, wd_475, by decide⟩
theorem cv_X5_85 : p_cv MT RX5 85 80 3 2 := ⟨m_X3_roadOf, t_X3_roadOf, vo_X3_roadOf, wd_491, by decide⟩
theorem vo_X3_addRoad : VOk m_X3_addRoad.1 m_X3_addRoad.2.1 m_X3_addRoad.2.2.1 m_X3_addRoad.2.2.2.1 3 3 := ⟨⟨_, _, rfl⟩, ⟨wd_502, wd_503, wd_92, wd_504⟩, ⟨by decide, by decide, by decide +kernel⟩⟩
theorem cv_X5_88 : p_cv MT RX5 88 79 3 3 := ⟨m_X3_addRoad, t_X3_addRoad, vo_X3_addRoad, wd_501, by decide⟩
theorem q_X5_readRoad : p_mok MT m_X5_readRoad := p_mok_of (by decide +kernel) (by decide +kernel) ⟨trivial, trivial, trivial, cv_X5_81, trivial, trivial, trivial, cv_X5_51, trivial, trivial, trivial, cv_X5_81, trivial, trivial, trivial, trivial, trivial, fr_X5_21, trivial, trivial, cv_X5_85, trivial, trivial, trivial, trivial, fr_X5_33, trivial, trivial, cv_X5_78, trivial, trivial, cv_X5_51, trivial, trivial, trivial, cv_X5_81, trivial, trivial, fr_X5_36, trivial, trivial, trivial, fr_X5_21, trivial, trivial, trivial, cv_X5_88, trivial, trivial⟩
theorem fr_X5_39 : p_fr RX5 39 5 6 := ⟨RX5, TX5, 7, rfl, uw_X5, by decide, wd_220⟩
theorem cs_X5_92 : p_cs MT RX5 92 46 2 1 := ⟨m_X10_isNode, t_X10_isNode, vo_X10_isNode, List.mem_of_getElem? (i := 1) rfl, by decide⟩
theorem fr_X5_96 : p_fr RX5 96 3 0 := ⟨RX3, TX3, 9, rfl, uw_X3, by decide, wd_167⟩
theorem q_X5_readWeight : p_mok MT m_X5_readWeight := p_mok_of (by decide +kernel) (by decide +kernel) ⟨trivial, trivial, trivial, cv_X5_81, trivial, trivial, fr_X5_36, trivial, trivial, trivial, fr_X5_39, trivial, trivial, trivial, trivial, trivial, trivial, trivial, trivial, fr_X5_33, trivial, trivial, cv_X5_78, trivial, trivial, cv_X5_51, trivial, trivial, trivial, cv_X5_81, trivial, trivial, fr_X5_36, trivial, trivial, trivial, cs_X5_92, trivial, trivial, trivial, fr_X5_39, trivial, trivial, trivial, trivial, fs_X5_39, trivial, fr_X5_21, fr_X5_96, trivial, trivial, trivial, trivial, trivial⟩
theorem fr_X5_99 : p_fr RX5 99 3 8 := ⟨RX3, TX3, 9, rfl, uw_X3, by decide, wd_186⟩
theorem vo_X3_isStationAt : VOk m_X3_isStationAt.1 m_X3_isStationAt.2.1 m_X3_isStationAt.2.2.1 m_X3_isStationAt.2.2.2.1 1 3 := ⟨⟨_, _, rfl⟩, ⟨wd_517, wd_518, wd_92, wd_519⟩, ⟨by decide, by decide, by decide +kernel⟩⟩
theorem cv_X5_102 : p_cv MT RX5 102 87 3 1 := ⟨m_X3_isStationAt, t_X3_isStationAt, vo_X3_isStationAt, wd_516, by decide⟩
theorem fr_X5_105 : p_fr RX5 105 3 6 := ⟨RX3, TX3, 9, rfl, uw_X3, by decide, wd_181⟩
theorem fs_X5_99 : p_fs RX5 99 3 8 0 := ⟨RX3, TX3, 9, tyX3, rfl, uw_X3, by decide, wd_186, tyX3_ok, nmX3, rfl, rfl⟩
theorem vo_X5_isCommaNext : VOk m_X5_isCommaNext.1 m_X5_isCommaNext.2.1 m_X5_isCommaNext.2.2.1 m_X5_isCommaNext.2.2.2.1 0 5 := ⟨⟨_, _, rfl⟩, ⟨wd_522, wd_8, wd_90, wd_523⟩, ⟨by decide, by decide, by decide +kernel⟩⟩
theorem cv_X5_108 : p_cv MT RX5 108 104 5 0 := ⟨m_X5_isCommaNext, t_X5_isCommaNext, vo_X5_isCommaNext, wd_520, by decide⟩
theorem q_X5_readStations : p_mok MT m_X5_readStations := p_mok_of (by decide +kernel) (by decide +kernel) ⟨trivial, fr_X5_21, fr_X5_99, trivial, trivial, trivial, fr_X5_33, cv_X5_78, trivial, trivial, trivial, trivial, trivial, trivial, trivial, trivial, trivial, trivial, trivial, trivial, fr_X5_33, trivial, trivial, fs_X5_33, trivial, trivial, trivial, cv_X5_81, trivial, trivial, fr_X5_21, trivial, cv_X5_102, trivial, trivial, trivial, fr_X5_33, trivial, trivial, cv_X5_78, trivial, fr_X5_36, trivial, trivial, trivial, fr_X5_21, fr_X5_105, trivial, trivial, trivial, trivial, fr_X5_21, trivial, trivial, trivial, fs_X5_99, trivial, cv_X5_108, trivial, trivial, trivial, trivial, trivial⟩
theorem fr_X5_29 : p_fr RX5 29 5 3 := ⟨RX5, TX5, 7, rfl, uw_X5, by decide, wd_216⟩
theorem fr_X5_25 : p_fr RX5 25 5 2 := ⟨RX5, TX5, 7, rfl, uw_X5, by decide, wd_214⟩
theorem q_X5_readEngines : p_mok MT m_X5_readEngines := p_mok_of (by decide +kernel) (by decide +kernel) ⟨trivial, fr_X5_21, fr_X5_99, trivial, trivial, fr_X5_29, trivial, trivial, trivial, fr_X5_33, cv_X5_78, trivial, trivial, trivial, trivial, trivial, trivial, trivial, trivial, trivial, trivial, trivial, trivial, fr_X5_33, trivial, trivial, fs_X5_33, trivial, trivial, trivial, fr_X5_21, fr_X5_99, trivial, trivial, cv_X5_81, trivial, trivial, fr_X5_36, trivial, trivial, trivial, fr_X5_25, trivial, trivial, trivial, trivial, trivial, trivial, trivial, fs_X5_29, trivial, cv_X5_108, trivial, trivial, trivial, trivial, trivial⟩
theorem q_X5_isCommaNext : p_mok MT m_X5_isCommaNext := p_mok_of (by decide +kernel) (by decide +kernel) ⟨trivial, fr_X5_36, trivial, trivial, trivial, fr_X5_12, trivial, fr_X5_33, cv_X5_62, trivial, trivial, trivial, trivial, trivial, trivial, trivial⟩
theorem q_X5_isDigitNext : p_mok MT m_X5_isDigitNext := p_mok_of (by decide +kernel) (by decide +kernel) ⟨trivial, fr_X5_12, trivial, fr_X5_33, cv_X5_62, trivial, trivial, trivial, trivial, trivial, trivial, trivial, trivial, trivial, trivial, trivial, trivial⟩
theorem q_X5_take : p_mok MT m_X5_take := p_mok_of (by decide +kernel) (by decide +kernel) ⟨trivial, fr_X5_36, trivial, trivial, trivial, trivial, fr_X5_12, trivial, fr_X5_33, cv_X5_62, trivial, trivial, trivial, trivial, fr_X5_33, trivial, trivial, fs_X5_33, trivial, trivial, trivial, fr_X5_33, cv_X5_78, trivial, trivial⟩
theorem vo_X5_isDigitNext : VOk m_X5_isDigitNext.1 m_X5_isDigitNext.2.1 m_X5_isDigitNext.2.2.1 m_X5_isDigitNext.2.2.2.1 0 5 := ⟨⟨_, _, rfl⟩, ⟨wd_481, wd_3, wd_90, wd_482⟩, ⟨by decide, by decide, by decide +kernel⟩⟩
theorem cv_X5_112 : p_cv MT RX5 112 105 5 0 := ⟨m_X5_isDigitNext, t_X5_isDigitNext, vo_X5_isDigitNext, wd_479, by decide⟩
theorem q_X5_takeNumber : p_mok MT m_X5_takeNumber := p_mok_of (by decide +kernel) (by decide +kernel) ⟨trivial, fr_X5_36, trivial, trivial, trivial, trivial, trivial, cv_X5_112, trivial, trivial, trivial, fr_X5_33, cv_X5_78, trivial, trivial, trivial, fr_X5_12, trivial, fr_X5_33, cv_X5_62, trivial, trivial, trivial, trivial, trivial, fr_X5_33, trivial, trivial, fs_X5_33, trivial, cv_X5_112, trivial, trivial, trivial, trivial, trivial, fr_X5_12, trivial, fr_X5_33, cv_X5_62, trivial, trivial, trivial, trivial, trivial, trivial, fr_X5_33, trivial, trivial, fs_X5_33, trivial, trivial, trivial, trivial, trivial, trivial, trivial, trivial, fr_X5_33, trivial, trivial, cv_X5_78, trivial, trivial, trivial, trivial, trivial⟩
theorem q_X5_refuse : p_mok MT m_X5_refuse := p_mok_of (by decide +kernel) (by decide +kernel) ⟨trivial, fr_X5_36, trivial, trivial, trivial, trivial, fs_X5_36, trivial, trivial⟩
theorem fs_X6_15 : p_fs RX6 15 6 1 0 := ⟨RX6, TX6, 2, tyX6, rfl, uw_X6, by decide, wd_126, tyX6_ok, nmX6, rfl, rfl⟩
theorem q_X6_clear : p_mok MT m_X6_clear := p_mok_of (by decide +kernel) (by decide +kernel) ⟨trivial, trivial, fs_X6_15, trivial, trivial⟩
theorem fr_X6_15 : p_fr RX6 15 6 1 := ⟨RX6, TX6, 2, rfl, uw_X6, by decide, wd_126⟩
theorem fr_X6_11 : p_fr RX6 11 6 0 := ⟨RX6, TX6, 2, rfl, uw_X6, by decide, wd_124⟩
theorem q_X6_add : p_mok MT m_X6_add := p_mok_of (by decide +kernel) (by decide +kernel) ⟨trivial, fr_X6_15, trivial, trivial, fr_X6_15, trivial, trivial, trivial, fr_X6_11, trivial, fr_X6_15, trivial, trivial, trivial, trivial, fr_X6_15, trivial, trivial, fs_X6_15, trivial, trivial⟩
theorem cv_X6_19 : p_cv MT RX6 19 109 6 0 := ⟨m_X6_clear, t_X6_clear, vo_X6_clear, wd_608, by decide⟩
theorem cv_X6_22 : p_cv MT RX6 22 110 6 1 := ⟨m_X6_add, t_X6_add, vo_X6_add, wd_612, by decide⟩
theorem q_X6_tell : p_mok MT m_X6_tell := p_mok_of (by decide +kernel) (by decide +kernel) ⟨trivial, cv_X6_19, trivial, trivial, cv_X6_22, trivial, trivial⟩
theorem cv_X6_26 : p_cv MT RX6 26 111 6 1 := ⟨m_X6_tell, t_X6_tell, vo_X6_tell, wd_674, by decide⟩
theorem q_X6_tell_ : p_mok MT m_X6_tell_ := p_mok_of (by decide +kernel) (by decide +kernel) ⟨trivial, trivial, cv_X6_26, trivial, trivial, cv_X6_22, trivial, trivial⟩
theorem fr_X7_9 : p_fr RX7 9 7 0 := ⟨RX7, TX7, 4, rfl, uw_X7, by decide, wd_347⟩
theorem cv_X7_25 : p_cv MT RX7 25 86 3 1 := ⟨m_X3_placeOf, t_X3_placeOf, vo_X3_placeOf, wd_596, by decide⟩
theorem q_X7_look : p_mok MT m_X7_look := p_mok_of (by decide +kernel) (by decide +kernel) ⟨trivial, trivial, trivial, trivial, trivial, trivial, fr_X7_9, trivial, trivial, trivial, trivial, trivial, cv_X7_25, trivial, trivial, trivial, trivial, trivial, trivial, trivial, trivial, trivial, trivial, trivial, trivial, trivial, trivial, trivial, trivial, trivial, trivial, trivial, trivial, trivial, trivial, trivial, fr_X7_9, trivial, trivial, trivial, trivial, trivial, trivial, trivial, trivial, trivial, trivial, trivial, trivial, trivial, trivial⟩
theorem fr_X7_22 : p_fr RX7 22 7 3 := ⟨RX7, TX7, 4, rfl, uw_X7, by decide, wd_354⟩
theorem fr_X7_18 : p_fr RX7 18 7 2 := ⟨RX7, TX7, 4, rfl, uw_X7, by decide, wd_352⟩
theorem fs_X7_22 : p_fs RX7 22 7 3 0 := ⟨RX7, TX7, 4, tyX7, rfl, uw_X7, by decide, wd_354, tyX7_ok, nmX7, rfl, rfl⟩
theorem fs_X7_18 : p_fs RX7 18 7 2 0 := ⟨RX7, TX7, 4, tyX7, rfl, uw_X7, by decide, wd_352, tyX7_ok, nmX7, rfl, rfl⟩
theorem q_X7_putOne : p_mok MT m_X7_putOne := p_mok_of (by decide +kernel) (by decide +kernel) ⟨trivial, trivial, trivial, trivial, trivial, trivial, trivial, fr_X7_22, trivial, fr_X7_18, trivial, fr_X7_9, trivial, trivial, trivial, trivial, fs_X7_22, trivial, trivial, fr_X7_18, trivial, fr_X7_9, trivial, trivial, trivial, fs_X7_18, trivial, trivial⟩
theorem fr_X7_31 : p_fr RX7 31 2 4 := ⟨RX2, TX2, 12, rfl, uw_X2, by decide, wd_267⟩
theorem fr_X7_36 : p_fr RX7 36 2 0 := ⟨RX2, TX2, 12, rfl, uw_X2, by decide, wd_253⟩
theorem vo_X7_putOne : VOk m_X7_putOne.1 m_X7_putOne.2.1 m_X7_putOne.2.2.1 m_X7_putOne.2.2.2.1 1 7 := ⟨⟨_, _, rfl⟩, ⟨wd_744, wd_17, wd_96, wd_745⟩, ⟨by decide, by decide, by decide +kernel⟩⟩
theorem cv_X7_39 : p_cv MT RX7 39 114 7 1 := ⟨m_X7_putOne, t_X7_putOne, vo_X7_putOne, wd_742, by decide⟩
theorem q_X7_putEngines : p_mok MT m_X7_putEngines := p_mok_of (by decide +kernel) (by decide +kernel) ⟨trivial, trivial, fs_X7_18, trivial, trivial, fs_X7_22, trivial, trivial, trivial, trivial, fr_X7_31, trivial, trivial, trivial, trivial, trivial, trivial, trivial, trivial, trivial, trivial, fr_X7_36, trivial, trivial, cv_X7_39, trivial, trivial, trivial, trivial⟩
theorem q_X7_putStations : p_mok MT m_X7_putStations := p_mok_of (by decide +kernel) (by decide +kernel) ⟨trivial, trivial, fs_X7_18, trivial, trivial, fs_X7_22, trivial, trivial, trivial, trivial, trivial, trivial, trivial, trivial, trivial, trivial, trivial, trivial, trivial, trivial, cv_X7_39, trivial, trivial, trivial, trivial⟩
theorem cv_X7_43 : p_cv MT RX7 43 89 3 1 := ⟨m_X3_weigh, t_X3_weigh, vo_X3_weigh, wd_750, by decide⟩
theorem q_X7_covered : p_mok MT m_X7_covered := p_mok_of (by decide +kernel) (by decide +kernel) ⟨trivial, trivial, fr_X7_18, cv_X7_43, trivial, trivial⟩
theorem q_X7_doubled : p_mok MT m_X7_doubled := p_mok_of (by decide +kernel) (by decide +kernel) ⟨trivial, trivial, fr_X7_22, cv_X7_43, trivial, trivial⟩
theorem cv_X7_46 : p_cv MT RX7 46 116 7 1 := ⟨m_X7_putStations, t_X7_putStations, vo_X7_putStations, wd_787, by decide⟩
theorem cv_X7_49 : p_cv MT RX7 49 117 7 1 := ⟨m_X7_covered, t_X7_covered, vo_X7_covered, wd_789, by decide⟩
theorem q_X7_coverOf : p_mok MT m_X7_coverOf := p_mok_of (by decide +kernel) (by decide +kernel) ⟨trivial, trivial, cv_X7_46, trivial, trivial, cv_X7_49, trivial, trivial⟩
theorem fr_X7_53 : p_fr RX7 53 3 8 := ⟨RX3, TX3, 9, rfl, uw_X3, by decide, wd_188⟩
theorem cs_X7_56 : p_cs MT RX7 56 0 1 1 := ⟨m_J_bitCount, t_J_bitCount, vo_J_bitCount, wd_781, by decide⟩
theorem cv_X7_61 : p_cv MT RX7 61 118 7 1 := ⟨m_X7_doubled, t_X7_doubled, vo_X7_doubled, wd_788, by decide⟩
theorem q_X7_bestStations : p_mok MT m_X7_bestStations := p_mok_of (by decide +kernel) (by decide +kernel) ⟨trivial, trivial, trivial, trivial, trivial, trivial, trivial, trivial, trivial, fr_X7_53, trivial, trivial, trivial, cs_X7_56, trivial, trivial, trivial, trivial, cv_X7_46, trivial, trivial, trivial, trivial, cv_X7_61, trivial, trivial, trivial, cv_X7_49, trivial, trivial, trivial, trivial, trivial, trivial, trivial, trivial, trivial, trivial, trivial, trivial, trivial⟩
theorem cv_X7_64 : p_cv MT RX7 64 119 7 2 := ⟨m_X7_coverOf, t_X7_coverOf, vo_X7_coverOf, wd_803, by decide⟩
theorem q_X7_bestBeside : p_mok MT m_X7_bestBeside := p_mok_of (by decide +kernel) (by decide +kernel) ⟨trivial, trivial, trivial, trivial, trivial, trivial, trivial, trivial, fr_X7_53, trivial, trivial, trivial, trivial, trivial, trivial, trivial, trivial, trivial, trivial, trivial, trivial, trivial, trivial, cv_X7_64, trivial, trivial, trivial, trivial, cv_X7_49, trivial, trivial, trivial, trivial, trivial, trivial, trivial, trivial⟩
theorem fr_X8_15 : p_fr RX8 15 8 1 := ⟨RX8, TX8, 2, rfl, uw_X8, by decide, wd_147⟩
theorem fr_X8_9 : p_fr RX8 9 8 0 := ⟨RX8, TX8, 2, rfl, uw_X8, by decide, wd_146⟩
theorem fs_X8_15 : p_fs RX8 15 8 1 0 := ⟨RX8, TX8, 2, tyX8, rfl, uw_X8, by decide, wd_147, tyX8_ok, nmX8, rfl, rfl⟩
theorem q_X8_append : p_mok MT m_X8_append := p_mok_of (by decide +kernel) (by decide +kernel) ⟨trivial, fr_X8_15, trivial, trivial, fr_X8_15, trivial, trivial, trivial, trivial, trivial, trivial, trivial, trivial, trivial, trivial, trivial, fr_X8_9, trivial, fr_X8_15, trivial, trivial, trivial, trivial, trivial, trivial, trivial, trivial, fr_X8_15, trivial, trivial, fs_X8_15, trivial, trivial, trivial, fr_X8_15, trivial, trivial⟩
theorem q_X8_cutTo : p_mok MT m_X8_cutTo := p_mok_of (by decide +kernel) (by decide +kernel) ⟨trivial, trivial, trivial, trivial, fr_X8_15, trivial, trivial, trivial, trivial, trivial, fs_X8_15, trivial, trivial, trivial⟩
theorem q_X8_signAt : p_mok MT m_X8_signAt := p_mok_of (by decide +kernel) (by decide +kernel) ⟨trivial, trivial, trivial, trivial, fr_X8_15, trivial, trivial, fr_X8_9, trivial, trivial, trivial, trivial, trivial, trivial⟩
theorem fr_X9_12 : p_fr RX9 12 9 0 := ⟨RX9, TX9, 6, rfl, uw_X9, by decide, wd_311⟩
theorem cv_X9_38 : p_cv MT RX9 38 78 3 1 := ⟨m_X3_takeOver, t_X3_takeOver, vo_X3_takeOver, wd_1046, by decide⟩
theorem fr_X9_21 : p_fr RX9 21 9 1 := ⟨RX9, TX9, 6, rfl, uw_X9, by decide, wd_315⟩
theorem vo_X2_takeOver : VOk m_X2_takeOver.1 m_X2_takeOver.2.1 m_X2_takeOver.2.2.1 m_X2_takeOver.2.2.2.1 1 2 := ⟨⟨_, _, rfl⟩, ⟨wd_1048, wd_1049, wd_95, wd_1050⟩, ⟨by decide, by decide, by decide +kernel⟩⟩
theorem cv_X9_42 : p_cv MT RX9 42 67 2 1 := ⟨m_X2_takeOver, t_X2_takeOver, vo_X2_takeOver, wd_1047, by decide⟩
theorem fr_X9_25 : p_fr RX9 25 9 2 := ⟨RX9, TX9, 6, rfl, uw_X9, by decide, wd_320⟩
theorem fs_X9_25 : p_fs RX9 25 9 2 0 := ⟨RX9, TX9, 6, tyX9, rfl, uw_X9, by decide, wd_320, tyX9_ok, nmX9, rfl, rfl⟩
theorem fr_X9_29 : p_fr RX9 29 9 3 := ⟨RX9, TX9, 6, rfl, uw_X9, by decide, wd_322⟩
theorem fs_X9_29 : p_fs RX9 29 9 3 0 := ⟨RX9, TX9, 6, tyX9, rfl, uw_X9, by decide, wd_322, tyX9_ok, nmX9, rfl, rfl⟩
theorem fr_X9_32 : p_fr RX9 32 9 4 := ⟨RX9, TX9, 6, rfl, uw_X9, by decide, wd_324⟩
theorem fs_X9_32 : p_fs RX9 32 9 4 0 := ⟨RX9, TX9, 6, tyX9, rfl, uw_X9, by decide, wd_324, tyX9_ok, nmX9, rfl, rfl⟩
theorem fr_X9_35 : p_fr RX9 35 9 5 := ⟨RX9, TX9, 6, rfl, uw_X9, by decide, wd_326⟩
theorem fs_X9_35 : p_fs RX9 35 9 5 0 := ⟨RX9, TX9, 6, tyX9, rfl, uw_X9, by decide, wd_326, tyX9_ok, nmX9, rfl, rfl⟩
theorem q_X9_takeOver : p_mok MT m_X9_takeOver := p_mok_of (by decide +kernel) (by decide +kernel) ⟨trivial, fr_X9_12, trivial, fr_X9_12, cv_X9_38, trivial, fr_X9_21, trivial, fr_X9_21, cv_X9_42, trivial, trivial, fr_X9_25, fs_X9_25, trivial, trivial, fr_X9_29, fs_X9_29, trivial, trivial, fr_X9_32, fs_X9_32, trivial, trivial, fr_X9_35, fs_X9_35, trivial, trivial⟩
theorem q_X9_draw : p_mok MT m_X9_draw := p_mok_of (by decide +kernel) (by decide +kernel) ⟨trivial, trivial, fr_X9_35, wd_718, trivial, trivial, trivial, fs_X9_35, trivial, trivial, trivial, fr_X9_35, trivial, trivial, trivial, trivial, trivial, trivial, trivial, trivial⟩
theorem vo_X2_movedLately : VOk m_X2_movedLately.1 m_X2_movedLately.2.1 m_X2_movedLately.2.2.1 m_X2_movedLately.2.2.2.1 0 2 := ⟨⟨_, _, rfl⟩, ⟨wd_1003, wd_1004, wd_95, wd_1005⟩, ⟨by decide, by decide, by decide +kernel⟩⟩
theorem cv_X9_46 : p_cv MT RX9 46 75 2 0 := ⟨m_X2_movedLately, t_X2_movedLately, vo_X2_movedLately, wd_1002, by decide⟩
theorem cs_X9_50 : p_cs MT RX9 50 0 4 0 := ⟨wd_1006, wd_499, wd_100, wd_500⟩
theorem q_X9_mayMove : p_mok MT m_X9_mayMove := p_mok_of (by decide +kernel) (by decide +kernel) ⟨trivial, trivial, fr_X9_32, trivial, fr_X9_21, cv_X9_46, trivial, cs_X9_50, trivial, trivial⟩
theorem fr_X9_56 : p_fr RX9 56 2 4 := ⟨RX2, TX2, 12, rfl, uw_X2, by decide, wd_268⟩
theorem fr_X9_59 : p_fr RX9 59 2 1 := ⟨RX2, TX2, 12, rfl, uw_X2, by decide, wd_259⟩
theorem fr_X9_63 : p_fr RX9 63 2 0 := ⟨RX2, TX2, 12, rfl, uw_X2, by decide, wd_254⟩
theorem cv_X9_66 : p_cv MT RX9 66 86 3 1 := ⟨m_X3_placeOf, t_X3_placeOf, vo_X3_placeOf, wd_628, by decide⟩
theorem cv_X9_70 : p_cv MT RX9 70 84 3 2 := ⟨m_X3_wayOf, t_X3_wayOf, vo_X3_wayOf, wd_629, by decide⟩
theorem q_X9_readyWay : p_mok MT m_X9_readyWay := p_mok_of (by decide +kernel) (by decide +kernel) ⟨trivial, trivial, trivial, trivial, fr_X9_21, fr_X9_56, trivial, trivial, fr_X9_21, fr_X9_59, trivial, trivial, trivial, trivial, trivial, trivial, fr_X9_12, trivial, fr_X9_12, trivial, fr_X9_21, fr_X9_63, trivial, trivial, cv_X9_66, trivial, cv_X9_70, trivial, trivial⟩
theorem cv_X9_73 : p_cv MT RX9 73 128 9 2 := ⟨m_X9_readyWay, t_X9_readyWay, vo_X9_readyWay, wd_639, by decide⟩
theorem q_X9_whoGoes : p_mok MT m_X9_whoGoes := p_mok_of (by decide +kernel) (by decide +kernel) ⟨trivial, trivial, trivial, trivial, trivial, trivial, trivial, trivial, fr_X9_21, fr_X9_56, trivial, trivial, trivial, trivial, cv_X9_73, trivial, trivial, trivial, trivial, trivial, trivial, trivial, trivial, trivial, trivial, trivial, trivial, trivial⟩
theorem cv_X9_76 : p_cv MT RX9 76 129 9 1 := ⟨m_X9_whoGoes, t_X9_whoGoes, vo_X9_whoGoes, wd_665, by decide⟩
theorem q_X9_nearestWay : p_mok MT m_X9_nearestWay := p_mok_of (by decide +kernel) (by decide +kernel) ⟨trivial, trivial, trivial, cv_X9_76, trivial, cv_X9_73, trivial, trivial⟩
theorem fr_X9_79 : p_fr RX9 79 2 7 := ⟨RX2, TX2, 12, rfl, uw_X2, by decide, wd_274⟩
theorem fs_X9_79 : p_fs RX9 79 2 7 0 := ⟨RX2, TX2, 12, tyX2, rfl, uw_X2, by decide, wd_274, tyX2_ok, nmX2, rfl, rfl⟩
theorem fr_X9_82 : p_fr RX9 82 2 9 := ⟨RX2, TX2, 12, rfl, uw_X2, by decide, wd_280⟩
theorem fs_X9_82 : p_fs RX9 82 2 9 0 := ⟨RX2, TX2, 12, tyX2, rfl, uw_X2, by decide, wd_280, tyX2_ok, nmX2, rfl, rfl⟩
theorem fr_X9_85 : p_fr RX9 85 2 8 := ⟨RX2, TX2, 12, rfl, uw_X2, by decide, wd_277⟩
theorem fs_X9_85 : p_fs RX9 85 2 8 0 := ⟨RX2, TX2, 12, tyX2, rfl, uw_X2, by decide, wd_277, tyX2_ok, nmX2, rfl, rfl⟩
theorem vo_X2_goOut : VOk m_X2_goOut.1 m_X2_goOut.2.1 m_X2_goOut.2.2.1 m_X2_goOut.2.2.2.1 3 2 := ⟨⟨_, _, rfl⟩, ⟨wd_667, wd_668, wd_95, wd_669⟩, ⟨by decide, by decide, by decide +kernel⟩⟩
theorem cv_X9_88 : p_cv MT RX9 88 72 2 3 := ⟨m_X2_goOut, t_X2_goOut, vo_X2_goOut, wd_666, by decide⟩
theorem q_X9_send : p_mok MT m_X9_send := p_mok_of (by decide +kernel) (by decide +kernel) ⟨trivial, trivial, cv_X9_76, trivial, trivial, fr_X9_21, trivial, fr_X9_79, trivial, trivial, fs_X9_79, trivial, trivial, trivial, trivial, fr_X9_21, trivial, fr_X9_82, trivial, trivial, fs_X9_82, trivial, trivial, trivial, trivial, trivial, cv_X9_73, trivial, trivial, trivial, fr_X9_25, trivial, trivial, fr_X9_21, trivial, fr_X9_85, trivial, trivial, fs_X9_85, trivial, fr_X9_21, trivial, trivial, trivial, fr_X9_29, cv_X9_88, trivial, trivial, trivial⟩
theorem cv_X9_92 : p_cv MT RX9 92 89 3 1 := ⟨m_X3_weigh, t_X3_weigh, vo_X3_weigh, wd_723, by decide⟩
theorem cv_X9_95 : p_cv MT RX9 95 126 9 1 := ⟨m_X9_draw, t_X9_draw, vo_X9_draw, wd_724, by decide⟩
theorem fr_X9_98 : p_fr RX9 98 3 0 := ⟨RX3, TX3, 9, rfl, uw_X3, by decide, wd_168⟩
theorem cv_X9_101 : p_cv MT RX9 101 131 9 1 := ⟨m_X9_send, t_X9_send, vo_X9_send, wd_725, by decide⟩
theorem q_X9_callSomewhere : p_mok MT m_X9_callSomewhere := p_mok_of (by decide +kernel) (by decide +kernel) ⟨trivial, fr_X9_12, trivial, cv_X9_92, trivial, trivial, trivial, trivial, trivial, trivial, cv_X9_95, trivial, trivial, trivial, trivial, trivial, trivial, trivial, trivial, fr_X9_12, fr_X9_98, trivial, trivial, trivial, trivial, trivial, cv_X9_101, trivial, trivial, trivial, trivial, fr_X9_12, fr_X9_98, trivial, trivial, trivial, trivial, trivial, trivial, trivial, trivial⟩
theorem fr_X11_48 : p_fr RX11 48 11 7 := ⟨RX11, TX11, 31, rfl, uw_X11, by decide, wd_1141⟩
theorem q_X11_thrown : p_mok MT m_X11_thrown := p_mok_of (by decide +kernel) (by decide +kernel) ⟨trivial, fr_X11_48, trivial, trivial⟩
theorem q_X11_in : p_mok MT m_X11_in := p_mok_of (by decide +kernel) (by decide +kernel) ⟨trivial, trivial, trivial, trivial, trivial, trivial, trivial, trivial, trivial, trivial, trivial, trivial, trivial⟩
theorem fs_X11_48 : p_fs RX11 48 11 7 0 := ⟨RX11, TX11, 31, tyX11, rfl, uw_X11, by decide, wd_1141, tyX11_ok, nmX11, rfl, rfl⟩
theorem q_X11_lost : p_mok MT m_X11_lost := p_mok_of (by decide +kernel) (by decide +kernel) ⟨trivial, trivial, fs_X11_48, trivial, trivial, trivial⟩
theorem fr_X11_20 : p_fr RX11 20 11 5 := ⟨RX11, TX11, 31, rfl, uw_X11, by decide, wd_1139⟩
theorem fr_X11_52 : p_fr RX11 52 11 6 := ⟨RX11, TX11, 31, rfl, uw_X11, by decide, wd_1140⟩
theorem fs_X11_52 : p_fs RX11 52 11 6 0 := ⟨RX11, TX11, 31, tyX11, rfl, uw_X11, by decide, wd_1140, tyX11_ok, nmX11, rfl, rfl⟩
theorem q_X11_tell : p_mok MT m_X11_tell := p_mok_of (by decide +kernel) (by decide +kernel) ⟨trivial, fr_X11_20, trivial, fr_X11_52, trivial, trivial, trivial, trivial, fr_X11_52, trivial, trivial, fs_X11_52, trivial, trivial⟩
theorem q_X11_ones : p_mok MT m_X11_ones := p_mok_of (by decide +kernel) (by decide +kernel) ⟨trivial, trivial, trivial, trivial, trivial, trivial, trivial, trivial, trivial, trivial, trivial, trivial, trivial, trivial, trivial, trivial, trivial⟩
theorem fr_X11_55 : p_fr RX11 55 11 4 := ⟨RX11, TX11, 31, rfl, uw_X11, by decide, wd_1138⟩
theorem fr_X11_16 : p_fr RX11 16 11 3 := ⟨RX11, TX11, 31, rfl, uw_X11, by decide, wd_1137⟩
theorem fs_X11_55 : p_fs RX11 55 11 4 0 := ⟨RX11, TX11, 31, tyX11, rfl, uw_X11, by decide, wd_1138, tyX11_ok, nmX11, rfl, rfl⟩
theorem q_X11_sign : p_mok MT m_X11_sign := p_mok_of (by decide +kernel) (by decide +kernel) ⟨trivial, trivial, fs_X11_48, trivial, fr_X11_55, trivial, trivial, trivial, trivial, trivial, trivial, trivial, trivial, trivial, trivial, trivial, fr_X11_16, trivial, trivial, fr_X11_55, trivial, trivial, trivial, fs_X11_55, trivial, trivial, trivial, trivial, trivial, trivial, trivial, trivial, trivial, trivial, fr_X11_55, trivial, trivial⟩
theorem vo_X11_in : SOk m_X11_in.1 m_X11_in.2.1 m_X11_in.2.2.1 m_X11_in.2.2.2.1 3 := ⟨⟨wd_1242, wd_99, wd_1243⟩, ⟨by decide, by decide, by decide +kernel⟩⟩
theorem cs_X11_58 : p_cs MT RX11 58 134 1 3 := ⟨m_X11_in, t_X11_in, vo_X11_in, wd_1241, by decide⟩
theorem q_X11_end : p_mok MT m_X11_end := p_mok_of (by decide +kernel) (by decide +kernel) ⟨trivial, trivial, fs_X11_48, trivial, trivial, trivial, trivial, fr_X11_55, trivial, cs_X11_58, trivial, trivial, trivial, trivial, trivial, fs_X11_55, trivial, trivial, trivial⟩
theorem q_X11_isNode : p_mok MT m_X11_isNode := p_mok_of (by decide +kernel) (by decide +kernel) ⟨trivial, trivial, trivial, wd_1315, cs_X11_58, trivial, trivial⟩
theorem fr_X11_7 : p_fr RX11 7 11 0 := ⟨RX11, TX11, 31, rfl, uw_X11, by decide, wd_1134⟩
theorem q_X11_isStation : p_mok MT m_X11_isStation := p_mok_of (by decide +kernel) (by decide +kernel) ⟨trivial, trivial, trivial, trivial, fr_X11_7, trivial, trivial, trivial, trivial, trivial, cs_X11_58, trivial, trivial⟩
theorem q_X11_isEngine : p_mok MT m_X11_isEngine := p_mok_of (by decide +kernel) (by decide +kernel) ⟨trivial, trivial, trivial, trivial, fr_X11_7, trivial, trivial, trivial, trivial, trivial, cs_X11_58, trivial, trivial⟩
theorem fr_X11_64 : p_fr RX11 64 11 10 := ⟨RX11, TX11, 31, rfl, uw_X11, by decide, wd_1144⟩
theorem fr_X11_67 : p_fr RX11 67 11 9 := ⟨RX11, TX11, 31, rfl, uw_X11, by decide, wd_1143⟩
theorem q_X11_sees : p_mok MT m_X11_sees := p_mok_of (by decide +kernel) (by decide +kernel) ⟨trivial, fr_X11_64, trivial, fr_X11_67, trivial, trivial, fr_X11_16, trivial, fr_X11_64, trivial, trivial, trivial, trivial, trivial, trivial, trivial⟩
theorem fr_X11_70 : p_fr RX11 70 11 11 := ⟨RX11, TX11, 31, rfl, uw_X11, by decide, wd_1145⟩
theorem fs_X11_70 : p_fs RX11 70 11 11 0 := ⟨RX11, TX11, 31, tyX11, rfl, uw_X11, by decide, wd_1145, tyX11_ok, nmX11, rfl, rfl⟩
theorem q_X11_fault : p_mok MT m_X11_fault := p_mok_of (by decide +kernel) (by decide +kernel) ⟨trivial, fr_X11_70, trivial, trivial, trivial, trivial, fs_X11_70, trivial, trivial⟩
theorem vo_X11_sees : VOk m_X11_sees.1 m_X11_sees.2.1 m_X11_sees.2.2.1 m_X11_sees.2.2.2.1 0 11 := ⟨⟨_, _, rfl⟩, ⟨wd_1254, wd_32, wd_99, wd_1255⟩, ⟨by decide, by decide, by decide +kernel⟩⟩
theorem cv_X11_73 : p_cv MT RX11 73 143 11 0 := ⟨m_X11_sees, t_X11_sees, vo_X11_sees, wd_1252, by decide⟩
theorem fs_X11_64 : p_fs RX11 64 11 10 0 := ⟨RX11, TX11, 31, tyX11, rfl, uw_X11, by decide, wd_1144, tyX11_ok, nmX11, rfl, rfl⟩
theorem vo_X11_fault : VOk m_X11_fault.1 m_X11_fault.2.1 m_X11_fault.2.2.1 m_X11_fault.2.2.2.1 1 11 := ⟨⟨_, _, rfl⟩, ⟨wd_1268, wd_35, wd_99, wd_1269⟩, ⟨by decide, by decide, by decide +kernel⟩⟩
theorem cv_X11_77 : p_cv MT RX11 77 144 11 1 := ⟨m_X11_fault, t_X11_fault, vo_X11_fault, wd_1266, by decide⟩
theorem q_X11_expect : p_mok MT m_X11_expect := p_mok_of (by decide +kernel) (by decide +kernel) ⟨trivial, fr_X11_70, trivial, trivial, trivial, trivial, cv_X11_73, trivial, trivial, trivial, trivial, fr_X11_64, trivial, trivial, fs_X11_64, trivial, trivial, trivial, fr_X11_64, cv_X11_77, trivial, trivial⟩
theorem q_X11_number : p_mok MT m_X11_number := p_mok_of (by decide +kernel) (by decide +kernel) ⟨trivial, fr_X11_70, trivial, trivial, trivial, trivial, trivial, trivial, trivial, trivial, trivial, trivial, trivial, trivial, cv_X11_73, trivial, wd_1264, wd_1265, cs_X11_58, trivial, trivial, trivial, trivial, trivial, cv_X11_73, trivial, trivial, trivial, trivial, trivial, trivial, trivial, fr_X11_64, trivial, trivial, fs_X11_64, trivial, trivial, trivial, trivial, trivial, fr_X11_64, cv_X11_77, trivial, trivial, trivial, trivial, trivial, trivial, trivial, cs_X11_58, trivial, trivial, trivial, fr_X11_64, trivial, trivial, cv_X11_77, trivial, trivial, trivial, trivial, trivial, trivial, cs_X11_58, trivial, trivial, trivial, trivial, trivial, trivial⟩
theorem vo_X11_number : VOk m_X11_number.1 m_X11_number.2.1 m_X11_number.2.2.1 m_X11_number.2.2.2.1 2 11 := ⟨⟨_, _, rfl⟩, ⟨wd_1262, wd_34, wd_99, wd_1263⟩, ⟨by decide, by decide, by decide +kernel⟩⟩
theorem cv_X11_85 : p_cv MT RX11 85 146 11 2 := ⟨m_X11_number, t_X11_number, vo_X11_number, wd_1260, by decide⟩
theorem vo_X11_expect : VOk m_X11_expect.1 m_X11_expect.2.1 m_X11_expect.2.2.1 m_X11_expect.2.2.2.1 1 11 := ⟨⟨_, _, rfl⟩, ⟨wd_1272, wd_36, wd_99, wd_1273⟩, ⟨by decide, by decide, by decide +kernel⟩⟩
theorem cv_X11_89 : p_cv MT RX11 89 145 11 1 := ⟨m_X11_expect, t_X11_expect, vo_X11_expect, wd_1270, by decide⟩
theorem fr_X11_24 : p_fr RX11 24 11 8 := ⟨RX11, TX11, 31, rfl, uw_X11, by decide, wd_1142⟩
theorem cs_X11_93 : p_cs MT RX11 93 0 5 0 := ⟨wd_1274, wd_496, wd_100, wd_497⟩
theorem cs_X11_98 : p_cs MT RX11 98 0 4 0 := ⟨wd_1275, wd_499, wd_100, wd_500⟩
theorem q_X11_readsRoad : p_mok MT m_X11_readsRoad := p_mok_of (by decide +kernel) (by decide +kernel) ⟨trivial, trivial, fr_X11_64, trivial, trivial, fs_X11_64, trivial, trivial, trivial, cv_X11_85, trivial, trivial, trivial, cv_X11_89, trivial, trivial, trivial, cv_X11_85, trivial, trivial, fr_X11_70, trivial, trivial, trivial, trivial, trivial, trivial, fr_X11_24, trivial, trivial, trivial, trivial, trivial, trivial, trivial, trivial, trivial, trivial, trivial, fr_X11_64, trivial, trivial, cv_X11_77, trivial, trivial, cv_X11_89, trivial, trivial, trivial, cv_X11_85, trivial, trivial, fr_X11_70, trivial, trivial, trivial, trivial, fr_X11_24, trivial, trivial, trivial, trivial, trivial, trivial, trivial, trivial, trivial, trivial, fr_X11_24, trivial, trivial, trivial, trivial, trivial, trivial, trivial, trivial, trivial, trivial, fr_X11_24, trivial, trivial, fr_X11_24, trivial, trivial, trivial, trivial, trivial, trivial, cs_X11_93, trivial, trivial, trivial, cs_X11_98, trivial, trivial, trivial, fr_X11_24, trivial, trivial, trivial, trivial, trivial, trivial, trivial, trivial⟩
theorem fr_X11_101 : p_fr RX11 101 11 15 := ⟨RX11, TX11, 31, rfl, uw_X11, by decide, wd_1149⟩
theorem fs_X11_101 : p_fs RX11 101 11 15 0 := ⟨RX11, TX11, 31, tyX11, rfl, uw_X11, by decide, wd_1149, tyX11_ok, nmX11, rfl, rfl⟩
theorem q_X11_readsWeight : p_mok MT m_X11_readsWeight := p_mok_of (by decide +kernel) (by decide +kernel) ⟨trivial, trivial, fr_X11_64, trivial, trivial, fs_X11_64, trivial, trivial, trivial, cv_X11_85, trivial, trivial, fr_X11_70, trivial, trivial, trivial, fr_X11_101, trivial, trivial, trivial, trivial, trivial, trivial, trivial, trivial, fr_X11_64, trivial, trivial, cv_X11_77, trivial, trivial, cv_X11_89, trivial, trivial, trivial, cv_X11_85, trivial, trivial, fr_X11_70, trivial, trivial, trivial, trivial, trivial, fr_X11_101, trivial, trivial, trivial, trivial, fs_X11_101, trivial, fr_X11_24, trivial, trivial, trivial, trivial, trivial, trivial, trivial⟩
theorem q_X11_isToldStation : p_mok MT m_X11_isToldStation := p_mok_of (by decide +kernel) (by decide +kernel) ⟨trivial, trivial, trivial, trivial, fr_X11_24, trivial, trivial, trivial, trivial, fr_X11_24, trivial, trivial, trivial, trivial, trivial, trivial, trivial, trivial, trivial, trivial, trivial, trivial, trivial⟩
theorem fr_X11_104 : p_fr RX11 104 11 13 := ⟨RX11, TX11, 31, rfl, uw_X11, by decide, wd_1147⟩
theorem fs_X11_104 : p_fs RX11 104 11 13 1 := ⟨RX11, TX11, 31, tyX11, rfl, uw_X11, by decide, wd_1147, tyX11_ok, nmX11, rfl, rfl⟩
theorem vo_X11_isToldStation : VOk m_X11_isToldStation.1 m_X11_isToldStation.2.1 m_X11_isToldStation.2.2.1 m_X11_isToldStation.2.2.2.1 1 11 := ⟨⟨_, _, rfl⟩, ⟨wd_1286, wd_39, wd_99, wd_1287⟩, ⟨by decide, by decide, by decide +kernel⟩⟩
theorem cv_X11_108 : p_cv MT RX11 108 149 11 1 := ⟨m_X11_isToldStation, t_X11_isToldStation, vo_X11_isToldStation, wd_1284, by decide⟩
theorem q_X11_readsStations : p_mok MT m_X11_readsStations := p_mok_of (by decide +kernel) (by decide +kernel) ⟨trivial, fr_X11_104, trivial, trivial, trivial, fr_X11_64, cv_X11_77, trivial, trivial, trivial, fs_X11_104, trivial, trivial, fr_X11_64, trivial, trivial, fs_X11_64, trivial, trivial, trivial, cv_X11_85, trivial, trivial, fr_X11_70, trivial, trivial, trivial, trivial, cv_X11_108, trivial, trivial, trivial, fr_X11_64, trivial, trivial, cv_X11_77, trivial, fr_X11_70, trivial, trivial, trivial, trivial, fr_X11_24, trivial, trivial, fr_X11_24, trivial, trivial, trivial, trivial, trivial, trivial, fr_X11_24, trivial, trivial, trivial, trivial, trivial, trivial, trivial, cv_X11_73, trivial, trivial, trivial, fr_X11_24, trivial, trivial, trivial, trivial, trivial, trivial, fr_X11_64, cv_X11_77, trivial, fr_X11_70, trivial, trivial, trivial, cv_X11_73, trivial, trivial, trivial, trivial⟩
theorem fr_X11_112 : p_fr RX11 112 11 14 := ⟨RX11, TX11, 31, rfl, uw_X11, by decide, wd_1148⟩
theorem fs_X11_112 : p_fs RX11 112 11 14 1 := ⟨RX11, TX11, 31, tyX11, rfl, uw_X11, by decide, wd_1148, tyX11_ok, nmX11, rfl, rfl⟩
theorem q_X11_readsEngines : p_mok MT m_X11_readsEngines := p_mok_of (by decide +kernel) (by decide +kernel) ⟨trivial, fr_X11_112, trivial, trivial, fr_X11_104, trivial, trivial, trivial, fr_X11_64, cv_X11_77, trivial, trivial, trivial, fs_X11_112, trivial, trivial, fr_X11_64, trivial, trivial, fs_X11_64, trivial, trivial, trivial, fr_X11_24, trivial, trivial, trivial, trivial, cv_X11_85, trivial, trivial, fr_X11_70, trivial, trivial, trivial, trivial, fr_X11_24, trivial, trivial, fr_X11_24, trivial, trivial, trivial, trivial, trivial, trivial, fr_X11_24, trivial, trivial, trivial, trivial, trivial, trivial, trivial, cv_X11_73, trivial, trivial, trivial, fr_X11_24, trivial, trivial, trivial, trivial, trivial, trivial, fr_X11_64, cv_X11_77, trivial, fr_X11_70, trivial, trivial, trivial, cv_X11_73, trivial, trivial, trivial, trivial⟩
theorem vo_X11_readsRoad : VOk m_X11_readsRoad.1 m_X11_readsRoad.2.1 m_X11_readsRoad.2.2.1 m_X11_readsRoad.2.2.2.1 0 11 := ⟨⟨_, _, rfl⟩, ⟨wd_1258, wd_33, wd_99, wd_1259⟩, ⟨by decide, by decide, by decide +kernel⟩⟩
theorem cv_X11_115 : p_cv MT RX11 115 147 11 0 := ⟨m_X11_readsRoad, t_X11_readsRoad, vo_X11_readsRoad, wd_1256, by decide⟩
theorem vo_X11_readsWeight : VOk m_X11_readsWeight.1 m_X11_readsWeight.2.1 m_X11_readsWeight.2.2.1 m_X11_readsWeight.2.2.2.1 0 11 := ⟨⟨_, _, rfl⟩, ⟨wd_1278, wd_37, wd_99, wd_1279⟩, ⟨by decide, by decide, by decide +kernel⟩⟩
theorem cv_X11_118 : p_cv MT RX11 118 148 11 0 := ⟨m_X11_readsWeight, t_X11_readsWeight, vo_X11_readsWeight, wd_1276, by decide⟩
theorem vo_X11_readsStations : VOk m_X11_readsStations.1 m_X11_readsStations.2.1 m_X11_readsStations.2.2.1 m_X11_readsStations.2.2.2.1 0 11 := ⟨⟨_, _, rfl⟩, ⟨wd_1282, wd_38, wd_99, wd_1283⟩, ⟨by decide, by decide, by decide +kernel⟩⟩
theorem cv_X11_121 : p_cv MT RX11 121 150 11 0 := ⟨m_X11_readsStations, t_X11_readsStations, vo_X11_readsStations, wd_1280, by decide⟩
theorem vo_X11_readsEngines : VOk m_X11_readsEngines.1 m_X11_readsEngines.2.1 m_X11_readsEngines.2.2.1 m_X11_readsEngines.2.2.2.1 0 11 := ⟨⟨_, _, rfl⟩, ⟨wd_1290, wd_40, wd_99, wd_1291⟩, ⟨by decide, by decide, by decide +kernel⟩⟩
theorem cv_X11_124 : p_cv MT RX11 124 151 11 0 := ⟨m_X11_readsEngines, t_X11_readsEngines, vo_X11_readsEngines, wd_1288, by decide⟩
theorem fr_X11_127 : p_fr RX11 127 11 12 := ⟨RX11, TX11, 31, rfl, uw_X11, by decide, wd_1146⟩
theorem fs_X11_127 : p_fs RX11 127 11 12 0 := ⟨RX11, TX11, 31, tyX11, rfl, uw_X11, by decide, wd_1146, tyX11_ok, nmX11, rfl, rfl⟩
theorem q_X11_readsLine : p_mok MT m_X11_readsLine := p_mok_of (by decide +kernel) (by decide +kernel) ⟨trivial, cv_X11_73, trivial, trivial, cv_X11_115, trivial, trivial, cv_X11_118, trivial, trivial, cv_X11_121, trivial, trivial, cv_X11_124, trivial, trivial, trivial, fr_X11_64, cv_X11_77, trivial, trivial, fr_X11_127, trivial, trivial, fs_X11_127, trivial, trivial⟩
theorem fs_X11_67 : p_fs RX11 67 11 9 0 := ⟨RX11, TX11, 31, tyX11, rfl, uw_X11, by decide, wd_1143, tyX11_ok, nmX11, rfl, rfl⟩
theorem vo_X11_readsLine : VOk m_X11_readsLine.1 m_X11_readsLine.2.1 m_X11_readsLine.2.2.1 m_X11_readsLine.2.2.2.1 0 11 := ⟨⟨_, _, rfl⟩, ⟨wd_1250, wd_31, wd_99, wd_1251⟩, ⟨by decide, by decide, by decide +kernel⟩⟩
theorem cv_X11_130 : p_cv MT RX11 130 152 11 0 := ⟨m_X11_readsLine, t_X11_readsLine, vo_X11_readsLine, wd_1248, by decide⟩
theorem fs_X11_133 : p_fs RX11 133 11 2 1 := ⟨RX11, TX11, 31, tyX11, rfl, uw_X11, by decide, wd_1136, tyX11_ok, nmX11, rfl, rfl⟩
theorem q_X11_land : p_mok MT m_X11_land := p_mok_of (by decide +kernel) (by decide +kernel) ⟨trivial, trivial, fs_X11_48, trivial, trivial, fr_X11_55, fs_X11_67, trivial, trivial, fs_X11_55, trivial, trivial, fs_X11_64, trivial, trivial, fs_X11_70, trivial, trivial, fs_X11_127, trivial, trivial, fs_X11_104, trivial, trivial, fs_X11_112, trivial, trivial, fs_X11_101, trivial, trivial, trivial, trivial, trivial, trivial, fr_X11_24, trivial, trivial, trivial, trivial, trivial, trivial, fr_X11_67, trivial, trivial, cv_X11_130, trivial, fr_X11_70, trivial, trivial, trivial, cv_X11_73, trivial, trivial, trivial, trivial, fr_X11_64, trivial, trivial, fs_X11_64, trivial, cv_X11_130, trivial, trivial, fr_X11_70, trivial, trivial, trivial, fr_X11_64, trivial, fr_X11_67, trivial, trivial, trivial, fr_X11_64, cv_X11_77, trivial, fr_X11_70, trivial, trivial, trivial, trivial, fr_X11_70, trivial, trivial, trivial, fr_X11_24, trivial, trivial, fr_X11_7, trivial, trivial, trivial, trivial, fr_X11_24, trivial, trivial, fr_X11_7, trivial, trivial, trivial, trivial, fr_X11_24, trivial, trivial, fr_X11_7, trivial, trivial, trivial, trivial, fr_X11_24, trivial, trivial, fr_X11_7, trivial, trivial, trivial, trivial, trivial, trivial, trivial, trivial, trivial, fr_X11_7, trivial, trivial, fr_X11_24, trivial, trivial, trivial, trivial, trivial, trivial, trivial, fs_X11_133, trivial, fr_X11_127, trivial, trivial⟩
theorem q_X11_sets : p_mok MT m_X11_sets := p_mok_of (by decide +kernel) (by decide +kernel) ⟨trivial, trivial, trivial, trivial, trivial, trivial, cs_X11_58, trivial, trivial, trivial, trivial, fr_X11_7, trivial, trivial, trivial, trivial, fr_X11_7, trivial, trivial, trivial, trivial, trivial, trivial⟩
theorem vo_X11_sets : VOk m_X11_sets.1 m_X11_sets.2.1 m_X11_sets.2.2.1 m_X11_sets.2.2.2.1 4 11 := ⟨⟨_, _, rfl⟩, ⟨wd_1298, wd_41, wd_99, wd_1299⟩, ⟨by decide, by decide, by decide +kernel⟩⟩
theorem cv_X11_136 : p_cv MT RX11 136 154 11 4 := ⟨m_X11_sets, t_X11_sets, vo_X11_sets, wd_1296, by decide⟩
theorem q_X11_reach : p_mok MT m_X11_reach := p_mok_of (by decide +kernel) (by decide +kernel) ⟨trivial, trivial, fs_X11_48, trivial, trivial, trivial, trivial, trivial, cv_X11_136, trivial, trivial⟩
theorem q_X11_service : p_mok MT m_X11_service := p_mok_of (by decide +kernel) (by decide +kernel) ⟨trivial, trivial, fs_X11_48, trivial, trivial, trivial, trivial, trivial, cv_X11_136, trivial, trivial⟩
theorem q_X11_limit : p_mok MT m_X11_limit := p_mok_of (by decide +kernel) (by decide +kernel) ⟨trivial, trivial, fs_X11_48, trivial, trivial, trivial, trivial, trivial, cv_X11_136, trivial, trivial⟩
theorem q_X11_isOpen : p_mok MT m_X11_isOpen := p_mok_of (by decide +kernel) (by decide +kernel) ⟨trivial, fr_X11_7, trivial, trivial, trivial, trivial, trivial, trivial, trivial, trivial, trivial, trivial, fr_X11_7, trivial, trivial, trivial, trivial, trivial, trivial, trivial, trivial, trivial, trivial, trivial, trivial, trivial, trivial⟩
theorem fr_X11_27 : p_fr RX11 27 11 16 := ⟨RX11, TX11, 31, rfl, uw_X11, by decide, wd_1150⟩
theorem vo_X11_isOpen : VOk m_X11_isOpen.1 m_X11_isOpen.2.1 m_X11_isOpen.2.2.1 m_X11_isOpen.2.2.2.1 2 11 := ⟨⟨_, _, rfl⟩, ⟨wd_1334, wd_45, wd_99, wd_1335⟩, ⟨by decide, by decide, by decide +kernel⟩⟩
theorem cv_X11_140 : p_cv MT RX11 140 158 11 2 := ⟨m_X11_isOpen, t_X11_isOpen, vo_X11_isOpen, wd_1332, by decide⟩
theorem q_X11_laysFar : p_mok MT m_X11_laysFar := p_mok_of (by decide +kernel) (by decide +kernel) ⟨trivial, trivial, trivial, trivial, trivial, trivial, trivial, trivial, trivial, trivial, trivial, fr_X11_27, trivial, trivial, trivial, trivial, trivial, trivial, trivial, trivial, trivial, trivial, trivial, trivial, trivial, cv_X11_140, trivial, trivial, fr_X11_7, trivial, trivial, trivial, trivial, trivial, trivial, trivial, trivial, trivial, trivial, trivial, trivial, trivial, trivial, trivial, trivial, trivial, trivial, trivial, trivial, trivial, trivial, trivial, trivial, trivial, trivial, trivial, trivial, trivial, trivial, trivial, fr_X11_27, trivial, trivial, trivial, trivial, trivial, trivial, trivial, fr_X11_27, trivial, trivial, trivial, trivial, trivial, trivial, trivial, trivial, trivial, trivial, fr_X11_27, trivial, trivial, trivial, trivial, trivial, trivial, trivial, trivial, fr_X11_27, trivial, trivial, trivial, trivial, trivial, trivial, trivial, trivial, trivial, trivial, trivial, trivial, trivial, trivial, trivial⟩
theorem q_X11_farOf : p_mok MT m_X11_farOf := p_mok_of (by decide +kernel) (by decide +kernel) ⟨trivial, fr_X11_27, trivial, trivial, trivial, trivial, trivial, trivial, trivial, trivial⟩
theorem q_X11_shutMany : p_mok MT m_X11_shutMany := p_mok_of (by decide +kernel) (by decide +kernel) ⟨trivial, trivial, trivial, trivial, trivial, trivial, trivial, trivial, trivial, trivial, trivial, trivial, trivial, trivial, trivial, trivial, fr_X11_7, trivial, trivial, trivial, trivial, trivial, trivial, trivial, trivial, trivial, trivial, trivial, trivial, trivial, trivial, trivial, trivial, trivial⟩
theorem q_X11_setsShut : p_mok MT m_X11_setsShut := p_mok_of (by decide +kernel) (by decide +kernel) ⟨trivial, fr_X11_7, trivial, trivial, trivial, trivial, trivial, trivial, trivial, trivial, trivial, trivial, fr_X11_7, trivial, trivial, trivial, trivial, trivial, trivial, trivial, trivial, trivial, trivial, trivial⟩
theorem vo_X11_isNode : SOk m_X11_isNode.1 m_X11_isNode.2.1 m_X11_isNode.2.2.1 m_X11_isNode.2.2.2.1 1 := ⟨⟨wd_1313, wd_99, wd_1314⟩, ⟨by decide, by decide, by decide +kernel⟩⟩
theorem cs_X11_144 : p_cs MT RX11 144 140 1 1 := ⟨m_X11_isNode, t_X11_isNode, vo_X11_isNode, wd_1312, by decide⟩
theorem vo_X11_setsShut : VOk m_X11_setsShut.1 m_X11_setsShut.2.1 m_X11_setsShut.2.2.1 m_X11_setsShut.2.2.2.1 3 11 := ⟨⟨_, _, rfl⟩, ⟨wd_1318, wd_42, wd_99, wd_1319⟩, ⟨by decide, by decide, by decide +kernel⟩⟩
theorem cv_X11_147 : p_cv MT RX11 147 162 11 3 := ⟨m_X11_setsShut, t_X11_setsShut, vo_X11_setsShut, wd_1316, by decide⟩
theorem vo_X11_shutMany : VOk m_X11_shutMany.1 m_X11_shutMany.2.1 m_X11_shutMany.2.2.1 m_X11_shutMany.2.2.2.1 0 11 := ⟨⟨_, _, rfl⟩, ⟨wd_1322, wd_43, wd_99, wd_1323⟩, ⟨by decide, by decide, by decide +kernel⟩⟩
theorem cv_X11_151 : p_cv MT RX11 151 161 11 0 := ⟨m_X11_shutMany, t_X11_shutMany, vo_X11_shutMany, wd_1320, by decide⟩
theorem q_X11_shuts : p_mok MT m_X11_shuts := p_mok_of (by decide +kernel) (by decide +kernel) ⟨trivial, trivial, fs_X11_48, trivial, cs_X11_144, trivial, trivial, cs_X11_144, trivial, trivial, trivial, trivial, fr_X11_7, trivial, trivial, trivial, trivial, trivial, trivial, trivial, trivial, trivial, trivial, trivial, trivial, fr_X11_7, trivial, trivial, trivial, trivial, trivial, trivial, trivial, trivial, trivial, trivial, trivial, trivial, trivial, trivial, trivial, trivial, trivial, trivial, trivial, trivial, trivial, trivial, trivial, trivial, trivial, cv_X11_147, trivial, cv_X11_151, trivial, trivial⟩
theorem vo_X11_laysFar : VOk m_X11_laysFar.1 m_X11_laysFar.2.1 m_X11_laysFar.2.2.1 m_X11_laysFar.2.2.2.1 0 11 := ⟨⟨_, _, rfl⟩, ⟨wd_1330, wd_44, wd_99, wd_1331⟩, ⟨by decide, by decide, by decide +kernel⟩⟩
theorem cv_X11_154 : p_cv MT RX11 154 159 11 0 := ⟨m_X11_laysFar, t_X11_laysFar, vo_X11_laysFar, wd_1328, by decide⟩
theorem vo_X11_farOf : VOk m_X11_farOf.1 m_X11_farOf.2.1 m_X11_farOf.2.2.1 m_X11_farOf.2.2.2.1 2 11 := ⟨⟨_, _, rfl⟩, ⟨wd_1338, wd_46, wd_99, wd_1339⟩, ⟨by decide, by decide, by decide +kernel⟩⟩
theorem cv_X11_157 : p_cv MT RX11 157 160 11 2 := ⟨m_X11_farOf, t_X11_farOf, vo_X11_farOf, wd_1336, by decide⟩
theorem q_X11_far : p_mok MT m_X11_far := p_mok_of (by decide +kernel) (by decide +kernel) ⟨trivial, trivial, fs_X11_48, trivial, cs_X11_144, trivial, trivial, cs_X11_144, trivial, trivial, trivial, trivial, cv_X11_154, trivial, trivial, trivial, cv_X11_157, trivial, trivial⟩
theorem fr_X11_30 : p_fr RX11 30 11 17 := ⟨RX11, TX11, 31, rfl, uw_X11, by decide, wd_1151⟩
theorem q_X11_lays : p_mok MT m_X11_lays := p_mok_of (by decide +kernel) (by decide +kernel) ⟨trivial, cv_X11_154, trivial, trivial, trivial, trivial, fr_X11_7, trivial, trivial, trivial, trivial, fr_X11_30, trivial, trivial, trivial, trivial, trivial, trivial, trivial, trivial, trivial, trivial, fr_X11_7, trivial, trivial, trivial, trivial, trivial, cv_X11_157, trivial, fr_X11_7, trivial, trivial, trivial, trivial, fr_X11_30, trivial, trivial, trivial, trivial, trivial, trivial, trivial, trivial, trivial, trivial, trivial, trivial, trivial, trivial⟩
theorem q_X11_weightOf : p_mok MT m_X11_weightOf := p_mok_of (by decide +kernel) (by decide +kernel) ⟨trivial, trivial, trivial, trivial, trivial, trivial, trivial, trivial, trivial, trivial, trivial, trivial, trivial, trivial, trivial, trivial, fr_X11_7, trivial, trivial, trivial, trivial, trivial, trivial, trivial, trivial, trivial, trivial, trivial, trivial, trivial⟩
theorem q_X11_isReady : p_mok MT m_X11_isReady := p_mok_of (by decide +kernel) (by decide +kernel) ⟨trivial, fr_X11_7, trivial, trivial, trivial, trivial, trivial, trivial, trivial, trivial, trivial, trivial⟩
theorem vo_X11_isStation : VOk m_X11_isStation.1 m_X11_isStation.2.1 m_X11_isStation.2.2.1 m_X11_isStation.2.2.2.1 1 11 := ⟨⟨_, _, rfl⟩, ⟨wd_1346, wd_47, wd_99, wd_1347⟩, ⟨by decide, by decide, by decide +kernel⟩⟩
theorem cv_X11_160 : p_cv MT RX11 160 141 11 1 := ⟨m_X11_isStation, t_X11_isStation, vo_X11_isStation, wd_1344, by decide⟩
theorem vo_X11_lays : VOk m_X11_lays.1 m_X11_lays.2.1 m_X11_lays.2.2.1 m_X11_lays.2.2.2.1 0 11 := ⟨⟨_, _, rfl⟩, ⟨wd_1350, wd_48, wd_99, wd_1351⟩, ⟨by decide, by decide, by decide +kernel⟩⟩
theorem cv_X11_163 : p_cv MT RX11 163 165 11 0 := ⟨m_X11_lays, t_X11_lays, vo_X11_lays, wd_1348, by decide⟩
theorem vo_X11_weightOf : VOk m_X11_weightOf.1 m_X11_weightOf.2.1 m_X11_weightOf.2.2.1 m_X11_weightOf.2.2.2.1 1 11 := ⟨⟨_, _, rfl⟩, ⟨wd_1354, wd_49, wd_99, wd_1355⟩, ⟨by decide, by decide, by decide +kernel⟩⟩
theorem cv_X11_166 : p_cv MT RX11 166 166 11 1 := ⟨m_X11_weightOf, t_X11_weightOf, vo_X11_weightOf, wd_1352, by decide⟩
theorem vo_X11_tell : VOk m_X11_tell.1 m_X11_tell.2.1 m_X11_tell.2.2.1 m_X11_tell.2.2.2.1 1 11 := ⟨⟨_, _, rfl⟩, ⟨wd_1358, wd_50, wd_99, wd_1359⟩, ⟨by decide, by decide, by decide +kernel⟩⟩
theorem cv_X11_170 : p_cv MT RX11 170 136 11 1 := ⟨m_X11_tell, t_X11_tell, vo_X11_tell, wd_1356, by decide⟩
theorem q_X11_reached : p_mok MT m_X11_reached := p_mok_of (by decide +kernel) (by decide +kernel) ⟨trivial, trivial, fs_X11_48, trivial, trivial, cv_X11_160, trivial, trivial, trivial, trivial, cv_X11_163, trivial, trivial, fs_X11_52, trivial, trivial, trivial, fr_X11_30, trivial, trivial, cv_X11_166, trivial, cv_X11_170, trivial, fr_X11_30, trivial, trivial, trivial, trivial⟩
theorem vo_X11_isReady : VOk m_X11_isReady.1 m_X11_isReady.2.1 m_X11_isReady.2.2.1 m_X11_isReady.2.2.2.1 1 11 := ⟨⟨_, _, rfl⟩, ⟨wd_1370, wd_52, wd_99, wd_1371⟩, ⟨by decide, by decide, by decide +kernel⟩⟩
theorem cv_X11_174 : p_cv MT RX11 174 167 11 1 := ⟨m_X11_isReady, t_X11_isReady, vo_X11_isReady, wd_1368, by decide⟩
theorem q_X11_readyFor : p_mok MT m_X11_readyFor := p_mok_of (by decide +kernel) (by decide +kernel) ⟨trivial, trivial, trivial, trivial, trivial, trivial, fr_X11_7, trivial, trivial, trivial, trivial, trivial, trivial, cv_X11_174, trivial, trivial, fr_X11_30, trivial, fr_X11_7, trivial, trivial, trivial, trivial, trivial, trivial, trivial, trivial, trivial, trivial, trivial, trivial, trivial, trivial, trivial, trivial, trivial, trivial, trivial, trivial, trivial⟩
theorem q_X11_wayOf : p_mok MT m_X11_wayOf := p_mok_of (by decide +kernel) (by decide +kernel) ⟨trivial, trivial, fr_X11_7, trivial, trivial, fr_X11_7, trivial, trivial, trivial, trivial, trivial, trivial, trivial, cv_X11_157, trivial, trivial⟩
theorem q_X11_nearestStation : p_mok MT m_X11_nearestStation := p_mok_of (by decide +kernel) (by decide +kernel) ⟨trivial, trivial, trivial, trivial, trivial, trivial, fr_X11_7, trivial, trivial, trivial, trivial, trivial, fr_X11_7, trivial, trivial, trivial, trivial, trivial, cv_X11_157, trivial, trivial, trivial, trivial, trivial, trivial, trivial, trivial, trivial, trivial, fr_X11_7, trivial, trivial, trivial, trivial, trivial, cv_X11_157, trivial, trivial, trivial, trivial, trivial, trivial, trivial, trivial⟩
theorem vo_X11_wayOf : VOk m_X11_wayOf.1 m_X11_wayOf.2.1 m_X11_wayOf.2.2.1 m_X11_wayOf.2.2.2.1 2 11 := ⟨⟨_, _, rfl⟩, ⟨wd_1382, wd_55, wd_99, wd_1383⟩, ⟨by decide, by decide, by decide +kernel⟩⟩
theorem cv_X11_177 : p_cv MT RX11 177 170 11 2 := ⟨m_X11_wayOf, t_X11_wayOf, vo_X11_wayOf, wd_1380, by decide⟩
theorem q_X11_goer : p_mok MT m_X11_goer := p_mok_of (by decide +kernel) (by decide +kernel) ⟨trivial, trivial, trivial, trivial, trivial, trivial, fr_X11_7, trivial, trivial, trivial, trivial, trivial, cv_X11_174, trivial, trivial, trivial, trivial, cv_X11_177, trivial, trivial, trivial, trivial, trivial, trivial, trivial, trivial, cv_X11_177, trivial, trivial, trivial, cv_X11_177, trivial, trivial, trivial, trivial, trivial, trivial, trivial, trivial⟩
theorem vo_X11_readyFor : VOk m_X11_readyFor.1 m_X11_readyFor.2.1 m_X11_readyFor.2.2.1 m_X11_readyFor.2.2.2.1 1 11 := ⟨⟨_, _, rfl⟩, ⟨wd_1366, wd_51, wd_99, wd_1367⟩, ⟨by decide, by decide, by decide +kernel⟩⟩
theorem cv_X11_180 : p_cv MT RX11 180 169 11 1 := ⟨m_X11_readyFor, t_X11_readyFor, vo_X11_readyFor, wd_1364, by decide⟩
theorem vo_X11_nearestStation : VOk m_X11_nearestStation.1 m_X11_nearestStation.2.1 m_X11_nearestStation.2.2.1 m_X11_nearestStation.2.2.2.1 1 11 := ⟨⟨_, _, rfl⟩, ⟨wd_1374, wd_53, wd_99, wd_1375⟩, ⟨by decide, by decide, by decide +kernel⟩⟩
theorem cv_X11_183 : p_cv MT RX11 183 171 11 1 := ⟨m_X11_nearestStation, t_X11_nearestStation, vo_X11_nearestStation, wd_1372, by decide⟩
theorem vo_X11_goer : VOk m_X11_goer.1 m_X11_goer.2.1 m_X11_goer.2.2.1 m_X11_goer.2.2.2.1 1 11 := ⟨⟨_, _, rfl⟩, ⟨wd_1378, wd_54, wd_99, wd_1379⟩, ⟨by decide, by decide, by decide +kernel⟩⟩
theorem cv_X11_186 : p_cv MT RX11 186 172 11 1 := ⟨m_X11_goer, t_X11_goer, vo_X11_goer, wd_1376, by decide⟩
theorem q_X11_node : p_mok MT m_X11_node := p_mok_of (by decide +kernel) (by decide +kernel) ⟨trivial, trivial, fs_X11_48, trivial, cs_X11_144, trivial, trivial, trivial, trivial, cv_X11_163, trivial, trivial, trivial, fr_X11_7, trivial, trivial, trivial, trivial, trivial, trivial, trivial, cv_X11_180, trivial, trivial, trivial, cv_X11_183, trivial, trivial, trivial, cv_X11_186, trivial, trivial, trivial, trivial⟩
theorem vo_X11_isEngine : VOk m_X11_isEngine.1 m_X11_isEngine.2.1 m_X11_isEngine.2.2.1 m_X11_isEngine.2.2.2.1 1 11 := ⟨⟨_, _, rfl⟩, ⟨wd_1390, wd_56, wd_99, wd_1391⟩, ⟨by decide, by decide, by decide +kernel⟩⟩
theorem cv_X11_189 : p_cv MT RX11 189 142 11 1 := ⟨m_X11_isEngine, t_X11_isEngine, vo_X11_isEngine, wd_1388, by decide⟩
theorem q_X11_engine : p_mok MT m_X11_engine := p_mok_of (by decide +kernel) (by decide +kernel) ⟨trivial, trivial, fs_X11_48, trivial, trivial, cv_X11_189, trivial, trivial, trivial, trivial, trivial, trivial, fr_X11_7, trivial, trivial, trivial, trivial, trivial, trivial, fr_X11_7, trivial, trivial, trivial, trivial, trivial, trivial, trivial, cv_X11_174, trivial, trivial, trivial, trivial, fr_X11_7, trivial, trivial, trivial, trivial, trivial, fr_X11_7, trivial, trivial, trivial, trivial, trivial, trivial, trivial⟩
theorem q_X11_station : p_mok MT m_X11_station := p_mok_of (by decide +kernel) (by decide +kernel) ⟨trivial, trivial, fs_X11_48, trivial, trivial, cv_X11_160, trivial, trivial, fr_X11_7, trivial, trivial, trivial, trivial, trivial, trivial, trivial, trivial⟩
theorem q_X11_calls : p_mok MT m_X11_calls := p_mok_of (by decide +kernel) (by decide +kernel) ⟨trivial, fr_X11_7, trivial, trivial, trivial, trivial, trivial, trivial, trivial, trivial, cv_X11_186, trivial, trivial, trivial, trivial, trivial, fr_X11_7, trivial, trivial, trivial, trivial, trivial, trivial, trivial, trivial, trivial, trivial, trivial, cv_X11_177, trivial, trivial, fr_X11_7, trivial, trivial, trivial, trivial, trivial, trivial, trivial, fr_X11_7, trivial, trivial, trivial, trivial, trivial, fr_X11_7, trivial, trivial, trivial, trivial, trivial, trivial, trivial, trivial, trivial, fr_X11_7, trivial, trivial, trivial, trivial, trivial, trivial, fr_X11_7, trivial, trivial, trivial, trivial, fr_X11_7, trivial, trivial, trivial, trivial, trivial, trivial, trivial, fr_X11_7, trivial, trivial, trivial, trivial, trivial, trivial, trivial⟩
theorem vo_X11_calls : VOk m_X11_calls.1 m_X11_calls.2.1 m_X11_calls.2.2.1 m_X11_calls.2.2.2.1 1 11 := ⟨⟨_, _, rfl⟩, ⟨wd_1402, wd_57, wd_99, wd_1403⟩, ⟨by decide, by decide, by decide +kernel⟩⟩
theorem cv_X11_192 : p_cv MT RX11 192 176 11 1 := ⟨m_X11_calls, t_X11_calls, vo_X11_calls, wd_1400, by decide⟩
theorem q_X11_call : p_mok MT m_X11_call := p_mok_of (by decide +kernel) (by decide +kernel) ⟨trivial, trivial, fs_X11_48, trivial, cs_X11_144, trivial, trivial, trivial, trivial, cv_X11_163, trivial, trivial, cv_X11_192, trivial, trivial, trivial, trivial, trivial, trivial, trivial, trivial, fs_X11_52, trivial, trivial, trivial, trivial, cv_X11_177, trivial, cv_X11_170, trivial, trivial, trivial, trivial, cv_X11_177, trivial, fr_X11_7, trivial, trivial, trivial, trivial, trivial, trivial, cv_X11_170, trivial, trivial, trivial⟩
theorem q_X11_canGo : p_mok MT m_X11_canGo := p_mok_of (by decide +kernel) (by decide +kernel) ⟨trivial, trivial, cv_X11_174, trivial, trivial, trivial, trivial, cv_X11_177, trivial, trivial, trivial, trivial, trivial, trivial, trivial⟩
theorem vo_X11_canGo : VOk m_X11_canGo.1 m_X11_canGo.2.1 m_X11_canGo.2.2.1 m_X11_canGo.2.2.2.1 2 11 := ⟨⟨_, _, rfl⟩, ⟨wd_1414, wd_59, wd_99, wd_1415⟩, ⟨by decide, by decide, by decide +kernel⟩⟩
theorem cv_X11_195 : p_cv MT RX11 195 178 11 2 := ⟨m_X11_canGo, t_X11_canGo, vo_X11_canGo, wd_1412, by decide⟩
theorem fr_X11_198 : p_fr RX11 198 11 20 := ⟨RX11, TX11, 31, rfl, uw_X11, by decide, wd_1154⟩
theorem fs_X11_198 : p_fs RX11 198 11 20 0 := ⟨RX11, TX11, 31, tyX11, rfl, uw_X11, by decide, wd_1154, tyX11_ok, nmX11, rfl, rfl⟩
theorem fs_X11_201 : p_fs RX11 201 11 18 0 := ⟨RX11, TX11, 31, tyX11, rfl, uw_X11, by decide, wd_1152, tyX11_ok, nmX11, rfl, rfl⟩
theorem fs_X11_204 : p_fs RX11 204 11 19 0 := ⟨RX11, TX11, 31, tyX11, rfl, uw_X11, by decide, wd_1153, tyX11_ok, nmX11, rfl, rfl⟩
theorem q_X11_pairOf : p_mok MT m_X11_pairOf := p_mok_of (by decide +kernel) (by decide +kernel) ⟨trivial, trivial, trivial, trivial, trivial, trivial, fr_X11_7, trivial, trivial, trivial, trivial, trivial, trivial, trivial, fr_X11_7, trivial, trivial, trivial, trivial, trivial, trivial, trivial, trivial, trivial, cv_X11_195, trivial, trivial, trivial, trivial, cv_X11_195, trivial, trivial, trivial, trivial, trivial, cv_X11_177, trivial, trivial, trivial, cv_X11_177, trivial, trivial, trivial, trivial, trivial, cv_X11_177, trivial, trivial, trivial, cv_X11_177, cs_X11_98, trivial, trivial, trivial, trivial, trivial, trivial, trivial, trivial, trivial, trivial, trivial, trivial, fr_X11_198, trivial, trivial, trivial, trivial, trivial, trivial, fs_X11_198, trivial, trivial, fs_X11_201, trivial, trivial, fs_X11_204, trivial, trivial, trivial, trivial, trivial, trivial, trivial⟩
theorem vo_X11_pairOf : VOk m_X11_pairOf.1 m_X11_pairOf.2.1 m_X11_pairOf.2.2.1 m_X11_pairOf.2.2.2.1 2 11 := ⟨⟨_, _, rfl⟩, ⟨wd_1410, wd_58, wd_99, wd_1411⟩, ⟨by decide, by decide, by decide +kernel⟩⟩
theorem cv_X11_207 : p_cv MT RX11 207 179 11 2 := ⟨m_X11_pairOf, t_X11_pairOf, vo_X11_pairOf, wd_1408, by decide⟩
theorem fr_X11_201 : p_fr RX11 201 11 18 := ⟨RX11, TX11, 31, rfl, uw_X11, by decide, wd_1152⟩
theorem fr_X11_204 : p_fr RX11 204 11 19 := ⟨RX11, TX11, 31, rfl, uw_X11, by decide, wd_1153⟩
theorem q_X11_pair : p_mok MT m_X11_pair := p_mok_of (by decide +kernel) (by decide +kernel) ⟨trivial, trivial, fs_X11_48, trivial, cs_X11_144, trivial, trivial, cs_X11_144, trivial, trivial, trivial, trivial, cv_X11_163, trivial, trivial, trivial, cv_X11_207, trivial, trivial, trivial, trivial, trivial, trivial, trivial, trivial, fs_X11_52, trivial, trivial, fr_X11_201, trivial, cv_X11_170, trivial, trivial, fr_X11_204, trivial, cv_X11_170, trivial, trivial, fr_X11_198, trivial, cv_X11_170, trivial, trivial, trivial⟩
theorem q_X11_worstPair : p_mok MT m_X11_worstPair := p_mok_of (by decide +kernel) (by decide +kernel) ⟨trivial, trivial, fs_X11_48, trivial, cv_X11_163, trivial, trivial, trivial, trivial, trivial, trivial, trivial, trivial, trivial, trivial, trivial, trivial, trivial, trivial, trivial, trivial, trivial, fr_X11_7, trivial, trivial, trivial, trivial, trivial, trivial, fr_X11_7, trivial, trivial, trivial, trivial, trivial, trivial, trivial, trivial, trivial, trivial, trivial, trivial, cv_X11_207, trivial, trivial, trivial, trivial, trivial, trivial, trivial, trivial, trivial, trivial, trivial, trivial, trivial, trivial, trivial, trivial, trivial, trivial, trivial, trivial, trivial, trivial, trivial, trivial, trivial, trivial, trivial, fs_X11_52, trivial, trivial, trivial, cv_X11_170, trivial, trivial, trivial, cv_X11_170, trivial, trivial, trivial⟩
theorem q_X11_passesOne : p_mok MT m_X11_passesOne := p_mok_of (by decide +kernel) (by decide +kernel) ⟨trivial, fr_X11_7, trivial, trivial, trivial, trivial, trivial, trivial, trivial, trivial, trivial, trivial, trivial, trivial, fr_X11_7, trivial, trivial, trivial, trivial, trivial, cv_X11_174, trivial, trivial, fr_X11_7, trivial, trivial, trivial, trivial, trivial, fr_X11_7, trivial, trivial, trivial, trivial, trivial, fr_X11_7, trivial, trivial, trivial, trivial, trivial, trivial, trivial, trivial, trivial, trivial, trivial⟩
theorem vo_X11_passesOne : VOk m_X11_passesOne.1 m_X11_passesOne.2.1 m_X11_passesOne.2.2.1 m_X11_passesOne.2.2.2.1 0 11 := ⟨⟨_, _, rfl⟩, ⟨wd_1427, wd_60, wd_99, wd_1428⟩, ⟨by decide, by decide, by decide +kernel⟩⟩
theorem cv_X11_212 : p_cv MT RX11 212 182 11 0 := ⟨m_X11_passesOne, t_X11_passesOne, vo_X11_passesOne, wd_1425, by decide⟩
theorem q_X11_pass : p_mok MT m_X11_pass := p_mok_of (by decide +kernel) (by decide +kernel) ⟨trivial, trivial, fs_X11_48, trivial, trivial, trivial, wd_1424, cs_X11_58, trivial, trivial, trivial, trivial, trivial, trivial, trivial, trivial, trivial, trivial, trivial, trivial, cv_X11_212, trivial, trivial, trivial, trivial, trivial, trivial, trivial⟩
theorem q_X11_seed : p_mok MT m_X11_seed := p_mok_of (by decide +kernel) (by decide +kernel) ⟨trivial, trivial, fs_X11_48, trivial, fr_X11_7, trivial, trivial, trivial, trivial, fr_X11_7, trivial, trivial, trivial, trivial, trivial, trivial⟩
theorem q_X11_draw : p_mok MT m_X11_draw := p_mok_of (by decide +kernel) (by decide +kernel) ⟨trivial, fr_X11_7, trivial, trivial, fr_X11_7, trivial, trivial, wd_1442, trivial, trivial, trivial, trivial, trivial, fr_X11_7, trivial, trivial, trivial, trivial, trivial, trivial, trivial, trivial⟩
theorem q_X11_allWeights : p_mok MT m_X11_allWeights := p_mok_of (by decide +kernel) (by decide +kernel) ⟨trivial, trivial, cv_X11_166, trivial, trivial⟩
theorem q_X11_nodeAt : p_mok MT m_X11_nodeAt := p_mok_of (by decide +kernel) (by decide +kernel) ⟨trivial, trivial, trivial, trivial, trivial, trivial, fr_X11_7, trivial, trivial, trivial, trivial, trivial, trivial, trivial, fr_X11_7, trivial, trivial, trivial, trivial, trivial, trivial, trivial, trivial, trivial, trivial, trivial⟩
theorem vo_X11_draw : VOk m_X11_draw.1 m_X11_draw.2.1 m_X11_draw.2.2.1 m_X11_draw.2.2.2.1 1 11 := ⟨⟨_, _, rfl⟩, ⟨wd_1440, wd_61, wd_99, wd_1441⟩, ⟨by decide, by decide, by decide +kernel⟩⟩
theorem cv_X11_218 : p_cv MT RX11 218 185 11 1 := ⟨m_X11_draw, t_X11_draw, vo_X11_draw, wd_1438, by decide⟩
theorem vo_X11_allWeights : VOk m_X11_allWeights.1 m_X11_allWeights.2.1 m_X11_allWeights.2.2.1 m_X11_allWeights.2.2.2.1 0 11 := ⟨⟨_, _, rfl⟩, ⟨wd_1445, wd_62, wd_99, wd_1446⟩, ⟨by decide, by decide, by decide +kernel⟩⟩
theorem cv_X11_221 : p_cv MT RX11 221 186 11 0 := ⟨m_X11_allWeights, t_X11_allWeights, vo_X11_allWeights, wd_1443, by decide⟩
theorem vo_X11_nodeAt : VOk m_X11_nodeAt.1 m_X11_nodeAt.2.1 m_X11_nodeAt.2.2.1 m_X11_nodeAt.2.2.2.1 1 11 := ⟨⟨_, _, rfl⟩, ⟨wd_1449, wd_63, wd_99, wd_1450⟩, ⟨by decide, by decide, by decide +kernel⟩⟩
theorem cv_X11_224 : p_cv MT RX11 224 187 11 1 := ⟨m_X11_nodeAt, t_X11_nodeAt, vo_X11_nodeAt, wd_1447, by decide⟩
theorem q_X11_storms : p_mok MT m_X11_storms := p_mok_of (by decide +kernel) (by decide +kernel) ⟨trivial, trivial, fs_X11_48, trivial, trivial, trivial, wd_1424, cs_X11_58, trivial, trivial, trivial, trivial, wd_1437, cs_X11_58, trivial, trivial, trivial, trivial, cv_X11_163, trivial, fr_X11_7, trivial, trivial, trivial, trivial, fr_X11_7, trivial, trivial, trivial, trivial, fr_X11_7, trivial, trivial, trivial, trivial, trivial, trivial, trivial, trivial, trivial, cv_X11_212, trivial, trivial, trivial, cv_X11_218, trivial, trivial, trivial, cv_X11_221, trivial, trivial, trivial, trivial, trivial, cv_X11_221, cv_X11_218, cv_X11_224, cv_X11_192, trivial, trivial, trivial, trivial, trivial, fs_X11_52, trivial, trivial, fr_X11_7, trivial, trivial, trivial, trivial, trivial, cv_X11_170, trivial, trivial, fr_X11_7, trivial, trivial, trivial, trivial, trivial, cv_X11_170, trivial, fr_X11_7, trivial, trivial, trivial, trivial, trivial, trivial⟩
theorem q_X11_reachedNow : p_mok MT m_X11_reachedNow := p_mok_of (by decide +kernel) (by decide +kernel) ⟨trivial, trivial, trivial, trivial, trivial, trivial, trivial, trivial, trivial, trivial, cv_X11_180, trivial, trivial, trivial, trivial, trivial, trivial, trivial, trivial, trivial, trivial, trivial, trivial, trivial⟩
theorem q_X11_twiceNow : p_mok MT m_X11_twiceNow := p_mok_of (by decide +kernel) (by decide +kernel) ⟨trivial, trivial, trivial, trivial, trivial, trivial, trivial, trivial, trivial, trivial, cv_X11_180, trivial, trivial, trivial, trivial, trivial, trivial, trivial, trivial, trivial, trivial, trivial, trivial, trivial, trivial⟩
theorem vo_X11_twiceNow : VOk m_X11_twiceNow.1 m_X11_twiceNow.2.1 m_X11_twiceNow.2.2.1 m_X11_twiceNow.2.2.2.1 0 11 := ⟨⟨_, _, rfl⟩, ⟨wd_1457, wd_64, wd_99, wd_1458⟩, ⟨by decide, by decide, by decide +kernel⟩⟩
theorem cv_X11_227 : p_cv MT RX11 227 190 11 0 := ⟨m_X11_twiceNow, t_X11_twiceNow, vo_X11_twiceNow, wd_1455, by decide⟩
theorem vo_X11_reachedNow : VOk m_X11_reachedNow.1 m_X11_reachedNow.2.1 m_X11_reachedNow.2.2.1 m_X11_reachedNow.2.2.2.1 0 11 := ⟨⟨_, _, rfl⟩, ⟨wd_1461, wd_65, wd_99, wd_1462⟩, ⟨by decide, by decide, by decide +kernel⟩⟩
theorem cv_X11_230 : p_cv MT RX11 230 189 11 0 := ⟨m_X11_reachedNow, t_X11_reachedNow, vo_X11_reachedNow, wd_1459, by decide⟩
theorem q_X11_cover : p_mok MT m_X11_cover := p_mok_of (by decide +kernel) (by decide +kernel) ⟨trivial, trivial, fs_X11_48, trivial, cv_X11_163, trivial, trivial, fs_X11_52, trivial, trivial, trivial, cv_X11_227, cv_X11_166, trivial, cv_X11_170, trivial, trivial, cv_X11_221, trivial, cv_X11_170, trivial, trivial, cv_X11_230, cv_X11_166, trivial, trivial⟩
theorem q_X11_reachedBy : p_mok MT m_X11_reachedBy := p_mok_of (by decide +kernel) (by decide +kernel) ⟨trivial, trivial, trivial, trivial, trivial, trivial, fr_X11_7, trivial, trivial, trivial, trivial, trivial, trivial, trivial, trivial, trivial, trivial, trivial, trivial, fr_X11_30, trivial, trivial, trivial, trivial, trivial, trivial, trivial, trivial, trivial, trivial, trivial⟩
theorem q_X11_twiceBy : p_mok MT m_X11_twiceBy := p_mok_of (by decide +kernel) (by decide +kernel) ⟨trivial, trivial, trivial, trivial, trivial, trivial, trivial, trivial, fr_X11_7, trivial, trivial, trivial, trivial, trivial, trivial, trivial, trivial, trivial, trivial, trivial, trivial, trivial, fr_X11_30, trivial, trivial, trivial, trivial, trivial, trivial, trivial, fr_X11_30, trivial, trivial, trivial, trivial, trivial, trivial, trivial, trivial, trivial⟩
theorem q_X11_isSet : p_mok MT m_X11_isSet := p_mok_of (by decide +kernel) (by decide +kernel) ⟨trivial, trivial, trivial, trivial, trivial, trivial, trivial, trivial, trivial, cs_X11_58, trivial, trivial⟩
theorem vo_X11_isSet : VOk m_X11_isSet.1 m_X11_isSet.2.1 m_X11_isSet.2.2.1 m_X11_isSet.2.2.2.1 2 11 := ⟨⟨_, _, rfl⟩, ⟨wd_1469, wd_66, wd_99, wd_1470⟩, ⟨by decide, by decide, by decide +kernel⟩⟩
theorem cv_X11_233 : p_cv MT RX11 233 194 11 2 := ⟨m_X11_isSet, t_X11_isSet, vo_X11_isSet, wd_1467, by decide⟩
theorem vo_X11_reachedBy : VOk m_X11_reachedBy.1 m_X11_reachedBy.2.1 m_X11_reachedBy.2.2.1 m_X11_reachedBy.2.2.2.1 1 11 := ⟨⟨_, _, rfl⟩, ⟨wd_1473, wd_67, wd_99, wd_1474⟩, ⟨by decide, by decide, by decide +kernel⟩⟩
theorem cv_X11_236 : p_cv MT RX11 236 192 11 1 := ⟨m_X11_reachedBy, t_X11_reachedBy, vo_X11_reachedBy, wd_1471, by decide⟩
theorem q_X11_covers : p_mok MT m_X11_covers := p_mok_of (by decide +kernel) (by decide +kernel) ⟨trivial, trivial, fs_X11_48, trivial, trivial, trivial, fr_X11_7, trivial, trivial, cv_X11_233, trivial, trivial, trivial, trivial, cv_X11_163, trivial, trivial, fs_X11_52, trivial, trivial, trivial, cv_X11_236, trivial, cv_X11_170, trivial, trivial, trivial, cv_X11_236, cv_X11_166, trivial, trivial⟩
theorem vo_X11_ones : SOk m_X11_ones.1 m_X11_ones.2.1 m_X11_ones.2.2.1 m_X11_ones.2.2.2.1 1 := ⟨⟨wd_1498, wd_99, wd_1499⟩, ⟨by decide, by decide, by decide +kernel⟩⟩
theorem cs_X11_245 : p_cs MT RX11 245 137 1 1 := ⟨m_X11_ones, t_X11_ones, vo_X11_ones, wd_1497, by decide⟩
theorem q_X11_bestSet : p_mok MT m_X11_bestSet := p_mok_of (by decide +kernel) (by decide +kernel) ⟨trivial, trivial, trivial, trivial, trivial, trivial, trivial, fr_X11_7, trivial, trivial, trivial, trivial, trivial, cs_X11_245, trivial, trivial, trivial, trivial, trivial, trivial, trivial, trivial, trivial, cv_X11_236, cv_X11_166, trivial, trivial, trivial, cv_X11_236, cv_X11_166, trivial, trivial, trivial, trivial, trivial, trivial, trivial, trivial⟩
theorem vo_X11_bestSet : VOk m_X11_bestSet.1 m_X11_bestSet.2.1 m_X11_bestSet.2.2.1 m_X11_bestSet.2.2.2.1 1 11 := ⟨⟨_, _, rfl⟩, ⟨wd_1495, wd_68, wd_99, wd_1496⟩, ⟨by decide, by decide, by decide +kernel⟩⟩
theorem cv_X11_248 : p_cv MT RX11 248 196 11 1 := ⟨m_X11_bestSet, t_X11_bestSet, vo_X11_bestSet, wd_1493, by decide⟩
theorem vo_X11_twiceBy : VOk m_X11_twiceBy.1 m_X11_twiceBy.2.1 m_X11_twiceBy.2.2.1 m_X11_twiceBy.2.2.2.1 1 11 := ⟨⟨_, _, rfl⟩, ⟨wd_1502, wd_69, wd_99, wd_1503⟩, ⟨by decide, by decide, by decide +kernel⟩⟩
theorem cv_X11_251 : p_cv MT RX11 251 193 11 1 := ⟨m_X11_twiceBy, t_X11_twiceBy, vo_X11_twiceBy, wd_1500, by decide⟩
theorem q_X11_best : p_mok MT m_X11_best := p_mok_of (by decide +kernel) (by decide +kernel) ⟨trivial, trivial, fs_X11_48, trivial, trivial, trivial, trivial, fr_X11_7, trivial, trivial, trivial, cs_X11_58, trivial, trivial, trivial, trivial, cv_X11_163, trivial, trivial, cv_X11_248, trivial, trivial, trivial, fs_X11_52, trivial, trivial, trivial, cv_X11_170, trivial, trivial, trivial, trivial, cv_X11_251, cv_X11_166, trivial, cv_X11_170, trivial, trivial, trivial, cv_X11_236, cv_X11_166, trivial, trivial⟩
theorem q_X11_twice : p_mok MT m_X11_twice := p_mok_of (by decide +kernel) (by decide +kernel) ⟨trivial, trivial, fs_X11_48, trivial, trivial, trivial, trivial, fr_X11_7, trivial, trivial, trivial, cs_X11_58, trivial, trivial, trivial, trivial, cv_X11_163, trivial, trivial, trivial, trivial, trivial, trivial, trivial, fr_X11_7, trivial, trivial, trivial, trivial, trivial, cs_X11_245, trivial, trivial, trivial, trivial, trivial, trivial, trivial, trivial, trivial, cv_X11_251, cv_X11_166, trivial, trivial, trivial, cv_X11_251, cv_X11_166, trivial, trivial, trivial, trivial, trivial, trivial, trivial, fs_X11_52, trivial, trivial, trivial, cv_X11_170, trivial, trivial, trivial, trivial, cv_X11_236, cv_X11_166, trivial, cv_X11_170, trivial, trivial, trivial, cv_X11_251, cv_X11_166, trivial, trivial⟩
theorem q_X11_least : p_mok MT m_X11_least := p_mok_of (by decide +kernel) (by decide +kernel) ⟨trivial, trivial, fs_X11_48, trivial, trivial, trivial, trivial, trivial, fr_X11_7, trivial, trivial, trivial, trivial, trivial, trivial, trivial, trivial, trivial, trivial, trivial, trivial, trivial, trivial, trivial, trivial, fr_X11_7, trivial, trivial, trivial, trivial, cv_X11_163, trivial, trivial, cv_X11_230, cv_X11_166, trivial, trivial, trivial, trivial, trivial, trivial, trivial, trivial, trivial, trivial, trivial, fr_X11_7, trivial, trivial, trivial, trivial, trivial, trivial, trivial, trivial, trivial, trivial, fs_X11_52, trivial, trivial, trivial, cv_X11_170, trivial, trivial, trivial⟩
theorem q_X11_spread : p_mok MT m_X11_spread := p_mok_of (by decide +kernel) (by decide +kernel) ⟨trivial, trivial, fs_X11_48, trivial, cv_X11_163, trivial, trivial, trivial, trivial, trivial, trivial, trivial, trivial, trivial, trivial, trivial, trivial, trivial, cv_X11_186, trivial, trivial, trivial, trivial, trivial, trivial, trivial, trivial, trivial, cv_X11_177, trivial, trivial, trivial, fr_X11_7, trivial, trivial, trivial, trivial, trivial, trivial, trivial, trivial, trivial, fr_X11_7, trivial, trivial, trivial, trivial, trivial, trivial, trivial, trivial, trivial, trivial, trivial, trivial, trivial, trivial, trivial, trivial, trivial, trivial, trivial, trivial, fs_X11_52, trivial, trivial, trivial, cv_X11_170, trivial, trivial, trivial, cv_X11_170, trivial, trivial, trivial⟩
theorem q_X11_nested : p_mok MT m_X11_nested := p_mok_of (by decide +kernel) (by decide +kernel) ⟨trivial, trivial, fs_X11_48, trivial, cv_X11_163, trivial, trivial, fs_X11_52, trivial, trivial, trivial, trivial, trivial, trivial, fr_X11_7, trivial, trivial, trivial, trivial, trivial, cv_X11_248, trivial, trivial, trivial, trivial, trivial, fr_X11_20, trivial, trivial, trivial, trivial, trivial, trivial, trivial, trivial, trivial, trivial, trivial, trivial, trivial, trivial, trivial, trivial, trivial, trivial, trivial, trivial, cv_X11_170, trivial, trivial, trivial, trivial, trivial⟩
theorem q_X11_greedy : p_mok MT m_X11_greedy := p_mok_of (by decide +kernel) (by decide +kernel) ⟨trivial, trivial, fs_X11_48, trivial, cv_X11_163, trivial, trivial, fs_X11_52, trivial, trivial, trivial, trivial, trivial, trivial, trivial, trivial, fr_X11_7, trivial, trivial, trivial, trivial, trivial, trivial, trivial, trivial, trivial, fr_X11_7, trivial, trivial, trivial, trivial, trivial, trivial, trivial, trivial, trivial, trivial, trivial, trivial, trivial, trivial, trivial, trivial, trivial, trivial, trivial, trivial, trivial, cv_X11_236, cv_X11_166, trivial, trivial, trivial, trivial, trivial, trivial, trivial, cv_X11_236, cv_X11_166, trivial, trivial, trivial, trivial, trivial, trivial, trivial, trivial, trivial, trivial, trivial, trivial, trivial, trivial, cv_X11_170, trivial, trivial, trivial, trivial, cv_X11_236, cv_X11_166, trivial, trivial, trivial, trivial, cv_X11_248, cv_X11_236, cv_X11_166, trivial, trivial, trivial, trivial, trivial, trivial, trivial, trivial, trivial, trivial, trivial⟩
theorem q_X11_coverBut : p_mok MT m_X11_coverBut := p_mok_of (by decide +kernel) (by decide +kernel) ⟨trivial, trivial, trivial, trivial, trivial, trivial, fr_X11_7, trivial, trivial, trivial, trivial, trivial, trivial, cv_X11_174, trivial, trivial, fr_X11_7, trivial, trivial, trivial, trivial, trivial, trivial, trivial, fr_X11_30, trivial, fr_X11_7, trivial, trivial, trivial, trivial, trivial, trivial, trivial, trivial, trivial, trivial, trivial, trivial, trivial, cv_X11_166, trivial, trivial⟩
theorem vo_X11_coverBut : VOk m_X11_coverBut.1 m_X11_coverBut.2.1 m_X11_coverBut.2.2.1 m_X11_coverBut.2.2.2.1 1 11 := ⟨⟨_, _, rfl⟩, ⟨wd_1530, wd_70, wd_99, wd_1531⟩, ⟨by decide, by decide, by decide +kernel⟩⟩
theorem cv_X11_254 : p_cv MT RX11 254 203 11 1 := ⟨m_X11_coverBut, t_X11_coverBut, vo_X11_coverBut, wd_1528, by decide⟩
theorem q_X11_dearest : p_mok MT m_X11_dearest := p_mok_of (by decide +kernel) (by decide +kernel) ⟨trivial, trivial, fs_X11_48, trivial, fr_X11_7, trivial, trivial, trivial, trivial, trivial, trivial, cv_X11_163, trivial, trivial, trivial, trivial, trivial, trivial, fr_X11_7, trivial, trivial, trivial, trivial, trivial, cv_X11_254, trivial, trivial, cv_X11_254, trivial, trivial, trivial, trivial, trivial, trivial, trivial, fs_X11_52, trivial, trivial, trivial, cv_X11_230, cv_X11_166, trivial, trivial, cv_X11_254, trivial, trivial, cv_X11_170, trivial, trivial, trivial⟩
theorem q_X11_dearestRoad : p_mok MT m_X11_dearestRoad := p_mok_of (by decide +kernel) (by decide +kernel) ⟨trivial, trivial, fs_X11_48, trivial, trivial, trivial, trivial, trivial, trivial, trivial, trivial, fr_X11_7, trivial, trivial, trivial, trivial, fr_X11_7, trivial, trivial, trivial, trivial, trivial, trivial, trivial, trivial, fr_X11_7, trivial, trivial, trivial, trivial, trivial, trivial, trivial, trivial, trivial, trivial, cv_X11_140, trivial, trivial, trivial, trivial, trivial, trivial, cv_X11_147, trivial, cv_X11_163, trivial, trivial, trivial, trivial, cv_X11_147, trivial, trivial, cv_X11_230, cv_X11_166, trivial, trivial, trivial, trivial, trivial, trivial, trivial, trivial, trivial, fr_X11_7, trivial, trivial, trivial, trivial, trivial, trivial, trivial, trivial, trivial, trivial, trivial, trivial, trivial, trivial, trivial, trivial, fs_X11_52, trivial, trivial, trivial, cv_X11_170, trivial, trivial, trivial⟩
theorem fs_X11_257 : p_fs RX11 257 11 21 0 := ⟨RX11, TX11, 31, tyX11, rfl, uw_X11, by decide, wd_1155, tyX11_ok, nmX11, rfl, rfl⟩
theorem fs_X11_260 : p_fs RX11 260 11 22 0 := ⟨RX11, TX11, 31, tyX11, rfl, uw_X11, by decide, wd_1156, tyX11_ok, nmX11, rfl, rfl⟩
theorem fr_X11_260 : p_fr RX11 260 11 22 := ⟨RX11, TX11, 31, rfl, uw_X11, by decide, wd_1156⟩
theorem fr_X11_257 : p_fr RX11 257 11 21 := ⟨RX11, TX11, 31, rfl, uw_X11, by decide, wd_1155⟩
theorem q_X11_laysState : p_mok MT m_X11_laysState := p_mok_of (by decide +kernel) (by decide +kernel) ⟨trivial, trivial, fs_X11_257, trivial, trivial, fs_X11_260, trivial, trivial, trivial, trivial, fr_X11_7, trivial, trivial, trivial, trivial, trivial, trivial, trivial, trivial, trivial, trivial, trivial, trivial, trivial, fr_X11_260, trivial, fr_X11_257, trivial, fr_X11_30, trivial, fr_X11_7, trivial, trivial, trivial, trivial, trivial, trivial, trivial, fs_X11_260, trivial, trivial, fr_X11_257, trivial, fr_X11_30, trivial, fr_X11_7, trivial, trivial, trivial, trivial, trivial, trivial, fs_X11_257, trivial, trivial, trivial, trivial⟩
theorem vo_X11_laysState : VOk m_X11_laysState.1 m_X11_laysState.2.1 m_X11_laysState.2.2.1 m_X11_laysState.2.2.2.1 1 11 := ⟨⟨_, _, rfl⟩, ⟨wd_1546, wd_72, wd_99, wd_1547⟩, ⟨by decide, by decide, by decide +kernel⟩⟩
theorem cv_X11_263 : p_cv MT RX11 263 206 11 1 := ⟨m_X11_laysState, t_X11_laysState, vo_X11_laysState, wd_1544, by decide⟩
theorem q_X11_stateCover : p_mok MT m_X11_stateCover := p_mok_of (by decide +kernel) (by decide +kernel) ⟨trivial, trivial, cv_X11_263, trivial, trivial, fr_X11_257, cv_X11_166, trivial, trivial⟩
theorem vo_X11_stateCover : VOk m_X11_stateCover.1 m_X11_stateCover.2.1 m_X11_stateCover.2.2.1 m_X11_stateCover.2.2.2.1 1 11 := ⟨⟨_, _, rfl⟩, ⟨wd_1542, wd_71, wd_99, wd_1543⟩, ⟨by decide, by decide, by decide +kernel⟩⟩
theorem cv_X11_266 : p_cv MT RX11 266 207 11 1 := ⟨m_X11_stateCover, t_X11_stateCover, vo_X11_stateCover, wd_1540, by decide⟩
theorem q_X11_state : p_mok MT m_X11_state := p_mok_of (by decide +kernel) (by decide +kernel) ⟨trivial, trivial, fs_X11_48, trivial, trivial, trivial, fr_X11_7, trivial, trivial, cv_X11_233, trivial, trivial, trivial, trivial, cv_X11_163, trivial, trivial, cv_X11_266, trivial, trivial, trivial, fs_X11_52, trivial, trivial, trivial, fr_X11_260, cv_X11_166, trivial, cv_X11_170, trivial, trivial, trivial⟩
theorem q_X11_worst : p_mok MT m_X11_worst := p_mok_of (by decide +kernel) (by decide +kernel) ⟨trivial, trivial, fs_X11_48, trivial, trivial, trivial, trivial, fr_X11_7, trivial, trivial, trivial, cs_X11_58, trivial, trivial, trivial, trivial, cv_X11_163, trivial, trivial, trivial, trivial, trivial, trivial, trivial, trivial, trivial, trivial, trivial, fr_X11_7, trivial, trivial, trivial, trivial, trivial, cs_X11_245, trivial, trivial, trivial, trivial, trivial, cv_X11_266, trivial, trivial, trivial, trivial, trivial, trivial, trivial, trivial, trivial, trivial, trivial, trivial, trivial, trivial, trivial, trivial, trivial, trivial, trivial, trivial, trivial, trivial, trivial, trivial, trivial, trivial, fs_X11_52, trivial, trivial, trivial, cv_X11_170, trivial, trivial, trivial, cv_X11_170, trivial, trivial, trivial⟩
theorem q_X11_states : p_mok MT m_X11_states := p_mok_of (by decide +kernel) (by decide +kernel) ⟨trivial, trivial, fs_X11_48, trivial, trivial, trivial, trivial, trivial, cv_X11_163, trivial, trivial, trivial, trivial, fs_X11_52, trivial, trivial, trivial, trivial, fr_X11_7, trivial, trivial, trivial, trivial, trivial, trivial, trivial, trivial, trivial, trivial, fr_X11_7, trivial, trivial, trivial, trivial, trivial, trivial, cs_X11_245, trivial, trivial, trivial, trivial, cv_X11_266, trivial, trivial, trivial, trivial, trivial, trivial, trivial, trivial, trivial, trivial, trivial, trivial, cv_X11_170, trivial, trivial, trivial, trivial, trivial, trivial, trivial, trivial, trivial⟩
theorem fr_X11_33 : p_fr RX11 33 11 23 := ⟨RX11, TX11, 31, rfl, uw_X11, by decide, wd_1157⟩
theorem q_X11_laysSure : p_mok MT m_X11_laysSure := p_mok_of (by decide +kernel) (by decide +kernel) ⟨trivial, fr_X11_33, trivial, trivial, trivial, trivial, trivial, trivial, trivial, trivial, trivial, fr_X11_33, trivial, trivial, trivial, trivial, fr_X11_33, trivial, trivial, trivial, trivial, fr_X11_33, trivial, trivial, trivial, trivial, trivial, trivial, trivial, trivial, trivial, trivial, trivial, trivial, trivial, trivial, trivial⟩
theorem q_X11_expectedNow : p_mok MT m_X11_expectedNow := p_mok_of (by decide +kernel) (by decide +kernel) ⟨trivial, trivial, trivial, trivial, trivial, trivial, trivial, trivial, trivial, fr_X11_7, trivial, trivial, trivial, trivial, trivial, fr_X11_33, trivial, trivial, cv_X11_180, trivial, trivial, trivial, trivial, trivial, trivial, trivial, trivial, trivial⟩
theorem vo_X11_laysSure : VOk m_X11_laysSure.1 m_X11_laysSure.2.1 m_X11_laysSure.2.2.1 m_X11_laysSure.2.2.2.1 1 11 := ⟨⟨_, _, rfl⟩, ⟨wd_1562, wd_73, wd_99, wd_1563⟩, ⟨by decide, by decide, by decide +kernel⟩⟩
theorem cv_X11_269 : p_cv MT RX11 269 211 11 1 := ⟨m_X11_laysSure, t_X11_laysSure, vo_X11_laysSure, wd_1560, by decide⟩
theorem vo_X11_expectedNow : VOk m_X11_expectedNow.1 m_X11_expectedNow.2.1 m_X11_expectedNow.2.2.1 m_X11_expectedNow.2.2.2.1 0 11 := ⟨⟨_, _, rfl⟩, ⟨wd_1566, wd_74, wd_99, wd_1567⟩, ⟨by decide, by decide, by decide +kernel⟩⟩
theorem cv_X11_272 : p_cv MT RX11 272 212 11 0 := ⟨m_X11_expectedNow, t_X11_expectedNow, vo_X11_expectedNow, wd_1564, by decide⟩
theorem q_X11_expects : p_mok MT m_X11_expects := p_mok_of (by decide +kernel) (by decide +kernel) ⟨trivial, trivial, fs_X11_48, trivial, trivial, trivial, wd_1437, cs_X11_58, trivial, trivial, trivial, trivial, cv_X11_163, trivial, trivial, cv_X11_269, trivial, cv_X11_272, trivial, trivial⟩
theorem q_X11_readyMany : p_mok MT m_X11_readyMany := p_mok_of (by decide +kernel) (by decide +kernel) ⟨trivial, trivial, trivial, trivial, trivial, trivial, fr_X11_7, trivial, trivial, trivial, trivial, trivial, trivial, cv_X11_174, trivial, trivial, trivial, trivial, trivial, trivial, trivial, trivial, trivial, trivial, trivial⟩
theorem fr_X11_36 : p_fr RX11 36 11 24 := ⟨RX11, TX11, 31, rfl, uw_X11, by decide, wd_1158⟩
theorem q_X11_expectedTried : p_mok MT m_X11_expectedTried := p_mok_of (by decide +kernel) (by decide +kernel) ⟨trivial, trivial, trivial, trivial, trivial, trivial, trivial, trivial, trivial, trivial, trivial, trivial, trivial, trivial, trivial, trivial, fr_X11_30, trivial, fr_X11_36, trivial, trivial, trivial, trivial, trivial, trivial, trivial, trivial, trivial, trivial, trivial, trivial, trivial, fr_X11_7, trivial, trivial, trivial, trivial, trivial, fr_X11_33, trivial, trivial, trivial, trivial, trivial, trivial, trivial, trivial, trivial, trivial⟩
theorem q_X11_risesOn : p_mok MT m_X11_risesOn := p_mok_of (by decide +kernel) (by decide +kernel) ⟨trivial, trivial, trivial, trivial, trivial, trivial, trivial, fr_X11_36, trivial, trivial, trivial, fr_X11_7, trivial, trivial, trivial, trivial, trivial, trivial, trivial, trivial, trivial, trivial, trivial, trivial, fr_X11_36, trivial, trivial, trivial, trivial, trivial, trivial, trivial, trivial, trivial, trivial, trivial, fr_X11_36, trivial, trivial, trivial, trivial, trivial, trivial, trivial, trivial⟩
theorem vo_X11_readyMany : VOk m_X11_readyMany.1 m_X11_readyMany.2.1 m_X11_readyMany.2.2.1 m_X11_readyMany.2.2.2.1 0 11 := ⟨⟨_, _, rfl⟩, ⟨wd_1574, wd_75, wd_99, wd_1575⟩, ⟨by decide, by decide, by decide +kernel⟩⟩
theorem cv_X11_275 : p_cv MT RX11 275 214 11 0 := ⟨m_X11_readyMany, t_X11_readyMany, vo_X11_readyMany, wd_1572, by decide⟩
theorem vo_X11_expectedTried : VOk m_X11_expectedTried.1 m_X11_expectedTried.2.1 m_X11_expectedTried.2.2.1 m_X11_expectedTried.2.2.2.1 1 11 := ⟨⟨_, _, rfl⟩, ⟨wd_1578, wd_76, wd_99, wd_1579⟩, ⟨by decide, by decide, by decide +kernel⟩⟩
theorem cv_X11_278 : p_cv MT RX11 278 215 11 1 := ⟨m_X11_expectedTried, t_X11_expectedTried, vo_X11_expectedTried, wd_1576, by decide⟩
theorem fr_X11_39 : p_fr RX11 39 11 25 := ⟨RX11, TX11, 31, rfl, uw_X11, by decide, wd_1159⟩
theorem vo_X11_risesOn : VOk m_X11_risesOn.1 m_X11_risesOn.2.1 m_X11_risesOn.2.2.1 m_X11_risesOn.2.2.2.1 1 11 := ⟨⟨_, _, rfl⟩, ⟨wd_1582, wd_77, wd_99, wd_1583⟩, ⟨by decide, by decide, by decide +kernel⟩⟩
theorem cv_X11_281 : p_cv MT RX11 281 216 11 1 := ⟨m_X11_risesOn, t_X11_risesOn, vo_X11_risesOn, wd_1580, by decide⟩
theorem q_X11_bestFor : p_mok MT m_X11_bestFor := p_mok_of (by decide +kernel) (by decide +kernel) ⟨trivial, trivial, fs_X11_48, trivial, trivial, trivial, wd_1437, cs_X11_58, trivial, trivial, trivial, trivial, cv_X11_275, trivial, trivial, fr_X11_7, trivial, trivial, trivial, trivial, trivial, trivial, trivial, trivial, cv_X11_163, trivial, trivial, cv_X11_269, trivial, trivial, trivial, trivial, trivial, trivial, fr_X11_36, trivial, trivial, trivial, trivial, trivial, trivial, trivial, trivial, trivial, trivial, trivial, trivial, trivial, cv_X11_278, trivial, trivial, trivial, trivial, trivial, trivial, trivial, trivial, trivial, trivial, trivial, trivial, fr_X11_39, trivial, trivial, fr_X11_36, trivial, trivial, trivial, trivial, trivial, trivial, trivial, cv_X11_281, trivial, trivial, trivial, trivial, fs_X11_52, trivial, trivial, trivial, trivial, trivial, trivial, trivial, fr_X11_39, trivial, trivial, trivial, cv_X11_170, trivial, trivial, trivial, trivial, cv_X11_272, trivial, cv_X11_170, trivial, trivial, trivial⟩
theorem q_X11_greatestCover : p_mok MT m_X11_greatestCover := p_mok_of (by decide +kernel) (by decide +kernel) ⟨trivial, trivial, trivial, trivial, cv_X11_275, trivial, fr_X11_7, trivial, trivial, cs_X11_93, cv_X11_248, cv_X11_236, cv_X11_166, trivial, trivial⟩
theorem vo_X11_greatestCover : VOk m_X11_greatestCover.1 m_X11_greatestCover.2.1 m_X11_greatestCover.2.2.1 m_X11_greatestCover.2.2.2.1 0 11 := ⟨⟨_, _, rfl⟩, ⟨wd_1590, wd_78, wd_99, wd_1591⟩, ⟨by decide, by decide, by decide +kernel⟩⟩
theorem cv_X11_284 : p_cv MT RX11 284 218 11 0 := ⟨m_X11_greatestCover, t_X11_greatestCover, vo_X11_greatestCover, wd_1588, by decide⟩
theorem q_X11_regret : p_mok MT m_X11_regret := p_mok_of (by decide +kernel) (by decide +kernel) ⟨trivial, trivial, fs_X11_48, trivial, cv_X11_163, trivial, trivial, cv_X11_230, cv_X11_166, trivial, trivial, cv_X11_284, trivial, trivial, trivial, fs_X11_52, trivial, trivial, trivial, cv_X11_170, trivial, trivial, trivial, cv_X11_170, trivial, trivial, trivial, trivial, trivial⟩
theorem fr_X11_42 : p_fr RX11 42 11 26 := ⟨RX11, TX11, 31, rfl, uw_X11, by decide, wd_1160⟩
theorem fr_X11_287 : p_fr RX11 287 11 28 := ⟨RX11, TX11, 31, rfl, uw_X11, by decide, wd_1162⟩
theorem fr_X11_290 : p_fr RX11 290 11 29 := ⟨RX11, TX11, 31, rfl, uw_X11, by decide, wd_1163⟩
theorem fr_X11_293 : p_fr RX11 293 11 30 := ⟨RX11, TX11, 31, rfl, uw_X11, by decide, wd_1164⟩
theorem fs_X11_287 : p_fs RX11 287 11 28 0 := ⟨RX11, TX11, 31, tyX11, rfl, uw_X11, by decide, wd_1162, tyX11_ok, nmX11, rfl, rfl⟩
theorem fs_X11_290 : p_fs RX11 290 11 29 0 := ⟨RX11, TX11, 31, tyX11, rfl, uw_X11, by decide, wd_1163, tyX11_ok, nmX11, rfl, rfl⟩
theorem fs_X11_293 : p_fs RX11 293 11 30 0 := ⟨RX11, TX11, 31, tyX11, rfl, uw_X11, by decide, wd_1164, tyX11_ok, nmX11, rfl, rfl⟩
theorem fr_X11_45 : p_fr RX11 45 11 27 := ⟨RX11, TX11, 31, rfl, uw_X11, by decide, wd_1161⟩
theorem q_X11_weighs : p_mok MT m_X11_weighs := p_mok_of (by decide +kernel) (by decide +kernel) ⟨trivial, trivial, trivial, trivial, trivial, trivial, fr_X11_7, trivial, trivial, trivial, trivial, trivial, trivial, cv_X11_174, trivial, trivial, fr_X11_30, trivial, fr_X11_42, trivial, trivial, trivial, trivial, trivial, trivial, trivial, trivial, trivial, trivial, trivial, cv_X11_166, trivial, trivial, fr_X11_287, trivial, trivial, trivial, trivial, fr_X11_287, trivial, trivial, trivial, fr_X11_287, trivial, trivial, trivial, fr_X11_290, trivial, trivial, trivial, fr_X11_290, trivial, trivial, trivial, fr_X11_293, trivial, trivial, trivial, trivial, fs_X11_287, trivial, trivial, fs_X11_290, trivial, trivial, fs_X11_293, trivial, trivial, trivial, trivial, fr_X11_7, trivial, trivial, trivial, trivial, fr_X11_45, trivial, trivial, fr_X11_42, trivial, trivial, trivial, trivial, trivial, trivial, trivial⟩
theorem vo_X11_weighs : VOk m_X11_weighs.1 m_X11_weighs.2.1 m_X11_weighs.2.2.1 m_X11_weighs.2.2.2.1 2 11 := ⟨⟨_, _, rfl⟩, ⟨wd_1607, wd_81, wd_99, wd_1608⟩, ⟨by decide, by decide, by decide +kernel⟩⟩
theorem cv_X11_296 : p_cv MT RX11 296 220 11 2 := ⟨m_X11_weighs, t_X11_weighs, vo_X11_weighs, wd_1605, by decide⟩
theorem vo_X11_tries : VOk m_X11_tries.1 m_X11_tries.2.1 m_X11_tries.2.2.1 m_X11_tries.2.2.2.1 4 11 := ⟨⟨_, _, rfl⟩, ⟨wd_1603, wd_80, wd_99, wd_1604⟩, ⟨by decide, by decide, by decide +kernel⟩⟩
theorem cv_X11_300 : p_cv MT RX11 300 221 11 4 := ⟨m_X11_tries, t_X11_tries, vo_X11_tries, wd_1601, by decide⟩
theorem q_X11_tries : p_mok MT m_X11_tries := p_mok_of (by decide +kernel) (by decide +kernel) ⟨trivial, trivial, fr_X11_7, trivial, trivial, trivial, trivial, trivial, trivial, cv_X11_296, trivial, trivial, fr_X11_7, trivial, trivial, trivial, trivial, trivial, trivial, trivial, cv_X11_174, trivial, trivial, fr_X11_42, trivial, trivial, trivial, trivial, trivial, trivial, trivial, trivial, trivial, trivial, cv_X11_300, trivial, trivial, trivial, trivial, trivial, fr_X11_7, trivial, trivial, trivial, trivial, trivial, fr_X11_7, trivial, trivial, trivial, trivial, trivial, fr_X11_7, trivial, trivial, trivial, trivial, cv_X11_157, trivial, trivial, trivial, trivial, trivial, trivial, trivial, trivial, trivial, trivial, trivial, fr_X11_42, trivial, trivial, trivial, trivial, trivial, trivial, trivial, trivial, trivial, trivial, trivial, trivial, trivial, trivial, trivial, trivial, trivial, trivial, trivial, trivial, trivial, trivial, trivial, cv_X11_300, trivial, trivial, trivial, trivial⟩
theorem q_X11_laysMoves : p_mok MT m_X11_laysMoves := p_mok_of (by decide +kernel) (by decide +kernel) ⟨trivial, cv_X11_163, trivial, trivial, fs_X11_287, trivial, trivial, trivial, trivial, trivial, cv_X11_300, trivial, trivial⟩
theorem vo_X11_laysMoves : VOk m_X11_laysMoves.1 m_X11_laysMoves.2.1 m_X11_laysMoves.2.2.1 m_X11_laysMoves.2.2.2.1 1 11 := ⟨⟨_, _, rfl⟩, ⟨wd_1599, wd_79, wd_99, wd_1600⟩, ⟨by decide, by decide, by decide +kernel⟩⟩
theorem cv_X11_306 : p_cv MT RX11 306 222 11 1 := ⟨m_X11_laysMoves, t_X11_laysMoves, vo_X11_laysMoves, wd_1597, by decide⟩
theorem q_X11_moves : p_mok MT m_X11_moves := p_mok_of (by decide +kernel) (by decide +kernel) ⟨trivial, trivial, fs_X11_48, trivial, trivial, trivial, wd_1596, cs_X11_58, trivial, trivial, trivial, trivial, trivial, cv_X11_306, trivial, trivial, fs_X11_52, trivial, trivial, fr_X11_293, trivial, cv_X11_170, trivial, trivial, trivial, trivial, fr_X11_7, trivial, trivial, trivial, trivial, fr_X11_45, trivial, trivial, trivial, fr_X11_7, trivial, trivial, trivial, trivial, trivial, trivial, trivial, trivial, trivial, cv_X11_170, trivial, trivial, fr_X11_45, trivial, trivial, trivial, cv_X11_170, trivial, trivial, trivial, fr_X11_287, trivial, trivial⟩
theorem q_X11_begunSince : p_mok MT m_X11_begunSince := p_mok_of (by decide +kernel) (by decide +kernel) ⟨trivial, trivial, trivial, trivial, trivial, trivial, trivial, trivial, trivial, fr_X11_7, trivial, trivial, trivial, trivial, trivial, fr_X11_7, trivial, trivial, trivial, trivial, trivial, trivial, trivial, trivial, trivial, trivial, trivial, trivial, trivial, trivial, trivial, trivial⟩
theorem vo_X11_begunSince : VOk m_X11_begunSince.1 m_X11_begunSince.2.1 m_X11_begunSince.2.2.1 m_X11_begunSince.2.2.2.1 1 11 := ⟨⟨_, _, rfl⟩, ⟨wd_1619, wd_83, wd_99, wd_1620⟩, ⟨by decide, by decide, by decide +kernel⟩⟩
theorem cv_X11_309 : p_cv MT RX11 309 224 11 1 := ⟨m_X11_begunSince, t_X11_begunSince, vo_X11_begunSince, wd_1617, by decide⟩
theorem q_X11_mayMove : p_mok MT m_X11_mayMove := p_mok_of (by decide +kernel) (by decide +kernel) ⟨trivial, trivial, fr_X11_7, trivial, trivial, trivial, trivial, fr_X11_7, trivial, trivial, trivial, trivial, cv_X11_309, trivial, cs_X11_98, trivial, trivial⟩
theorem q_X11_sends : p_mok MT m_X11_sends := p_mok_of (by decide +kernel) (by decide +kernel) ⟨trivial, trivial, fr_X11_7, trivial, trivial, fr_X11_7, trivial, trivial, trivial, trivial, trivial, trivial, trivial, fr_X11_7, trivial, trivial, trivial, trivial, cv_X11_157, trivial, trivial, fr_X11_7, trivial, trivial, trivial, trivial, trivial, trivial, fr_X11_7, trivial, trivial, trivial, trivial, trivial, trivial, fr_X11_7, trivial, trivial, trivial, trivial, fr_X11_7, trivial, trivial, trivial, trivial, trivial, trivial, fr_X11_7, trivial, trivial, fr_X11_7, trivial, trivial, trivial, trivial, trivial, trivial, fr_X11_7, trivial, trivial, trivial, trivial, fr_X11_7, trivial, trivial, trivial, trivial, trivial, trivial, trivial, fr_X11_7, trivial, trivial, trivial, trivial, trivial, trivial, trivial, trivial⟩
theorem vo_X11_mayMove : VOk m_X11_mayMove.1 m_X11_mayMove.2.1 m_X11_mayMove.2.2.1 m_X11_mayMove.2.2.2.1 0 11 := ⟨⟨_, _, rfl⟩, ⟨wd_1615, wd_82, wd_99, wd_1616⟩, ⟨by decide, by decide, by decide +kernel⟩⟩
theorem cv_X11_312 : p_cv MT RX11 312 225 11 0 := ⟨m_X11_mayMove, t_X11_mayMove, vo_X11_mayMove, wd_1613, by decide⟩
theorem vo_X11_sends : VOk m_X11_sends.1 m_X11_sends.2.1 m_X11_sends.2.2.1 m_X11_sends.2.2.2.1 2 11 := ⟨⟨_, _, rfl⟩, ⟨wd_1623, wd_84, wd_99, wd_1624⟩, ⟨by decide, by decide, by decide +kernel⟩⟩
theorem cv_X11_315 : p_cv MT RX11 315 226 11 2 := ⟨m_X11_sends, t_X11_sends, vo_X11_sends, wd_1621, by decide⟩
theorem q_X11_up : p_mok MT m_X11_up := p_mok_of (by decide +kernel) (by decide +kernel) ⟨trivial, trivial, fs_X11_48, trivial, trivial, trivial, wd_1596, cs_X11_58, trivial, trivial, trivial, trivial, trivial, trivial, cv_X11_312, cs_X11_93, cv_X11_306, trivial, trivial, trivial, trivial, trivial, trivial, fr_X11_7, trivial, trivial, trivial, trivial, fr_X11_45, trivial, trivial, trivial, fr_X11_7, trivial, trivial, trivial, trivial, trivial, trivial, trivial, trivial, trivial, fr_X11_45, trivial, trivial, cv_X11_315, trivial, trivial, trivial, trivial, trivial, fs_X11_52, trivial, trivial, fr_X11_287, trivial, cv_X11_170, trivial, trivial, trivial, cv_X11_230, cv_X11_166, trivial, cv_X11_170, trivial, trivial, trivial⟩
theorem q_X11_post : p_mok MT m_X11_post := p_mok_of (by decide +kernel) (by decide +kernel) ⟨trivial, trivial, fs_X11_48, trivial, trivial, cv_X11_189, trivial, trivial, trivial, cv_X11_160, trivial, trivial, trivial, trivial, trivial, cv_X11_174, trivial, trivial, trivial, trivial, cv_X11_154, trivial, trivial, fr_X11_7, trivial, trivial, fr_X11_7, trivial, trivial, trivial, trivial, trivial, trivial, trivial, fr_X11_7, trivial, trivial, trivial, trivial, cv_X11_157, trivial, trivial, trivial, fr_X11_7, trivial, trivial, trivial, trivial, trivial, trivial, trivial, trivial, trivial, trivial, trivial, cv_X11_312, trivial, trivial, trivial, trivial, trivial, trivial, cv_X11_315, trivial, trivial, trivial⟩
theorem q_X11_swap : p_mok MT m_X11_swap := p_mok_of (by decide +kernel) (by decide +kernel) ⟨trivial, trivial, fs_X11_48, trivial, trivial, cv_X11_189, trivial, trivial, trivial, cv_X11_189, trivial, trivial, trivial, trivial, trivial, trivial, trivial, trivial, cv_X11_174, trivial, trivial, trivial, cv_X11_174, trivial, trivial, trivial, trivial, cv_X11_154, trivial, fr_X11_7, trivial, trivial, trivial, trivial, trivial, trivial, fr_X11_7, trivial, trivial, trivial, trivial, trivial, trivial, trivial, fr_X11_7, trivial, trivial, trivial, trivial, trivial, fr_X11_7, trivial, trivial, trivial, trivial, cv_X11_157, trivial, trivial, trivial, trivial, trivial, trivial, trivial, trivial, trivial, trivial, cv_X11_312, trivial, trivial, trivial, trivial, trivial, trivial, trivial, cv_X11_315, trivial, trivial, trivial, cv_X11_315, trivial, trivial, trivial⟩
theorem q_X11_left : p_mok MT m_X11_left := p_mok_of (by decide +kernel) (by decide +kernel) ⟨trivial, trivial, fs_X11_48, trivial, fr_X11_7, trivial, trivial, trivial, trivial, trivial, trivial, trivial, trivial, trivial, trivial, trivial, trivial, fr_X11_7, trivial, trivial, trivial, trivial, trivial, trivial, cv_X11_309, trivial, fr_X11_7, trivial, trivial, trivial, trivial, trivial, trivial, trivial, fs_X11_52, trivial, trivial, trivial, cv_X11_170, trivial, cv_X11_312, trivial, trivial⟩
theorem q_X11_needs : p_mok MT m_X11_needs := p_mok_of (by decide +kernel) (by decide +kernel) ⟨trivial, trivial, fs_X11_48, trivial, trivial, trivial, trivial, trivial, trivial, trivial, cv_X11_306, trivial, fr_X11_287, trivial, cv_X11_284, trivial, trivial, trivial, trivial, trivial, trivial, trivial, trivial⟩
theorem fr_X11_13 : p_fr RX11 13 11 1 := ⟨RX11, TX11, 31, rfl, uw_X11, by decide, wd_1135⟩
theorem q_X11_keeps : p_mok MT m_X11_keeps := p_mok_of (by decide +kernel) (by decide +kernel) ⟨trivial, trivial, fs_X11_48, trivial, trivial, trivial, trivial, trivial, trivial, fr_X11_13, trivial, trivial, fr_X11_7, trivial, trivial, trivial, trivial, trivial, trivial, trivial, fs_X11_133, trivial, fr_X11_7, trivial, trivial, trivial, trivial⟩
theorem fr_X11_133 : p_fr RX11 133 11 2 := ⟨RX11, TX11, 31, rfl, uw_X11, by decide, wd_1136⟩
theorem q_X11_back : p_mok MT m_X11_back := p_mok_of (by decide +kernel) (by decide +kernel) ⟨trivial, trivial, fs_X11_48, trivial, fr_X11_133, trivial, trivial, trivial, trivial, trivial, trivial, trivial, trivial, trivial, fr_X11_7, trivial, trivial, fr_X11_13, trivial, trivial, trivial, trivial, trivial, trivial, fr_X11_7, trivial, trivial, trivial, trivial⟩
theorem q_X11_inState : p_mok MT m_X11_inState := p_mok_of (by decide +kernel) (by decide +kernel) ⟨trivial, trivial, trivial, trivial, trivial, trivial, fr_X11_7, trivial, trivial, trivial, trivial, trivial, fr_X11_7, trivial, trivial, trivial, trivial, trivial, trivial, trivial, trivial, trivial, trivial, trivial, trivial, trivial, trivial, trivial, trivial, trivial, trivial⟩
theorem vo_X11_inState : VOk m_X11_inState.1 m_X11_inState.2.1 m_X11_inState.2.2.1 m_X11_inState.2.2.2.1 1 11 := ⟨⟨_, _, rfl⟩, ⟨wd_1655, wd_85, wd_99, wd_1656⟩, ⟨by decide, by decide, by decide +kernel⟩⟩
theorem cv_X11_318 : p_cv MT RX11 318 234 11 1 := ⟨m_X11_inState, t_X11_inState, vo_X11_inState, wd_1653, by decide⟩
theorem q_X11_count : p_mok MT m_X11_count := p_mok_of (by decide +kernel) (by decide +kernel) ⟨trivial, trivial, fs_X11_48, trivial, trivial, trivial, fr_X11_7, trivial, trivial, trivial, trivial, fr_X11_7, trivial, trivial, trivial, trivial, trivial, cv_X11_318, trivial, trivial, trivial, cv_X11_318, trivial, trivial, trivial, cv_X11_318, trivial, trivial, fr_X11_7, trivial, trivial, trivial, trivial, fr_X11_7, trivial, trivial, trivial, trivial, fr_X11_7, trivial, trivial, trivial, trivial, fr_X11_7, trivial, trivial, trivial, trivial, fr_X11_7, trivial, trivial, trivial, trivial, fr_X11_7, trivial, trivial, trivial, trivial, fr_X11_7, trivial, trivial, trivial, trivial, fr_X11_7, trivial, trivial, trivial, trivial, fr_X11_52, trivial, trivial, fr_X11_55, trivial, trivial, trivial, trivial⟩
theorem vo_X11_lost : VOk m_X11_lost.1 m_X11_lost.2.1 m_X11_lost.2.2.1 m_X11_lost.2.2.2.1 0 11 := ⟨⟨_, _, rfl⟩, ⟨wd_1663, wd_86, wd_99, wd_1664⟩, ⟨by decide, by decide, by decide +kernel⟩⟩
theorem cv_X11_321 : p_cv MT RX11 321 135 11 0 := ⟨m_X11_lost, t_X11_lost, vo_X11_lost, wd_1661, by decide⟩
theorem q_X11_row : p_mok MT m_X11_row := p_mok_of (by decide +kernel) (by decide +kernel) ⟨trivial, trivial, fs_X11_48, trivial, trivial, trivial, trivial, fr_X11_52, trivial, trivial, trivial, cs_X11_58, trivial, trivial, fr_X11_20, trivial, trivial, trivial, trivial, cv_X11_321, trivial, trivial, trivial⟩
def p_moks (mt : List pCd) : List pCd → Prop
  | [] => True
  | e :: l => p_mok mt e ∧ p_moks mt l
theorem p_moks_all {mt : List pCd} : ∀ {l : List pCd}, p_moks mt l → ∀ e ∈ l, p_mok mt e
  | [], _, _, h => by cases h
  | _ :: _, h, e, he => by
    rcases List.mem_cons.mp he with rfl | h2
    · exact h.1
    · exact p_moks_all h.2 e h2
theorem MT_ok : ∀ cd ∈ MT, p_mok MT cd := p_moks_all ⟨q_J_bitCount, q_J_fill, q_X10_sign, q_X10_end, q_X10_land, q_X10_reach, q_X10_service, q_X10_limit, q_X10_shuts, q_X10_far, q_X10_reached, q_X10_node, q_X10_engine, q_X10_station, q_X10_call, q_X10_pair, q_X10_worstPair, q_X10_pass, q_X10_seed, q_X10_storms, q_X10_cover, q_X10_covers, q_X10_share, q_X10_best, q_X10_nested, q_X10_greedy, q_X10_dearest, q_X10_dearestRoad, q_X10_least, q_X10_twice, q_X10_spread, q_X10_state, q_X10_worst, q_X10_states, q_X10_expects, q_X10_bestFor, q_X10_regret, q_X10_moves, q_X10_up, q_X10_post, q_X10_swap, q_X10_left, q_X10_needs, q_X10_keeps, q_X10_back, q_X10_count, q_X10_isNode, q_X10_isStation, q_X10_isEngine, q_X10_look, q_X10_coverNow, q_X10_coverWithout, q_X10_greatestCover, q_X10_readyThatReach, q_X10_statesOf, q_X10_planned, q_X10_quotientBits, q_X0_prepare, q_X0_expectedNow, q_X0_hitsOf, q_X0_expected, q_X0_seekBest, q_X0_nextRow, q_X1_find, q_X1_tryBeside, q_X1_isLess, q_X2_begin, q_X2_takeOver, q_X2_nextMinute, q_X2_inMode, q_X2_postedAt, q_X2_waitOf, q_X2_goOut, q_X2_move, q_X2_remember, q_X2_movedLately, q_X2_waitForMove, q_X3_empty, q_X3_takeOver, q_X3_addRoad, q_X3_roadOf, q_X3_shutRoads, q_X3_measure, q_X3_shorten, q_X3_wayOf, q_X3_wayOfStations, q_X3_placeOf, q_X3_isStationAt, q_X3_nearestStation, q_X3_weigh, q_X4_prepare, q_X4_gather, q_X4_fill, q_X4_worthOf, q_X4_indexOf, q_X4_wayTo, q_X4_choose, q_X4_firstBest, q_X5_read, q_X5_readLine, q_X5_readRoad, q_X5_readWeight, q_X5_readStations, q_X5_readEngines, q_X5_isCommaNext, q_X5_isDigitNext, q_X5_take, q_X5_takeNumber, q_X5_refuse, q_X6_clear, q_X6_add, q_X6_tell, q_X6_tell_, q_X7_look, q_X7_putOne, q_X7_putEngines, q_X7_putStations, q_X7_covered, q_X7_doubled, q_X7_coverOf, q_X7_bestStations, q_X7_bestBeside, q_X8_append, q_X8_cutTo, q_X8_signAt, q_X9_takeOver, q_X9_draw, q_X9_mayMove, q_X9_readyWay, q_X9_whoGoes, q_X9_nearestWay, q_X9_send, q_X9_callSomewhere, q_X11_thrown, q_X11_in, q_X11_lost, q_X11_tell, q_X11_ones, q_X11_sign, q_X11_end, q_X11_isNode, q_X11_isStation, q_X11_isEngine, q_X11_sees, q_X11_fault, q_X11_expect, q_X11_number, q_X11_readsRoad, q_X11_readsWeight, q_X11_isToldStation, q_X11_readsStations, q_X11_readsEngines, q_X11_readsLine, q_X11_land, q_X11_sets, q_X11_reach, q_X11_service, q_X11_limit, q_X11_isOpen, q_X11_laysFar, q_X11_farOf, q_X11_shutMany, q_X11_setsShut, q_X11_shuts, q_X11_far, q_X11_lays, q_X11_weightOf, q_X11_isReady, q_X11_reached, q_X11_readyFor, q_X11_wayOf, q_X11_nearestStation, q_X11_goer, q_X11_node, q_X11_engine, q_X11_station, q_X11_calls, q_X11_call, q_X11_canGo, q_X11_pairOf, q_X11_pair, q_X11_worstPair, q_X11_passesOne, q_X11_pass, q_X11_seed, q_X11_draw, q_X11_allWeights, q_X11_nodeAt, q_X11_storms, q_X11_reachedNow, q_X11_twiceNow, q_X11_cover, q_X11_reachedBy, q_X11_twiceBy, q_X11_isSet, q_X11_covers, q_X11_bestSet, q_X11_best, q_X11_twice, q_X11_least, q_X11_spread, q_X11_nested, q_X11_greedy, q_X11_coverBut, q_X11_dearest, q_X11_dearestRoad, q_X11_laysState, q_X11_stateCover, q_X11_state, q_X11_worst, q_X11_states, q_X11_laysSure, q_X11_expectedNow, q_X11_expects, q_X11_readyMany, q_X11_expectedTried, q_X11_risesOn, q_X11_bestFor, q_X11_greatestCover, q_X11_regret, q_X11_weighs, q_X11_tries, q_X11_laysMoves, q_X11_moves, q_X11_begunSince, q_X11_mayMove, q_X11_sends, q_X11_up, q_X11_post, q_X11_swap, q_X11_left, q_X11_needs, q_X11_keeps, q_X11_back, q_X11_inState, q_X11_count, q_X11_row, trivial⟩
