/-! ===== methods, classes and links of the claim, as facts over gw: printed by wip/gen/links.py ===== -/
theorem lw_of1 {w : Cond} (i : Nat) (h : tables_1_1[i]? = some w) : w ∈ lw_tbl := List.mem_append_right _ (List.mem_append_left _ (List.mem_of_getElem? h))
theorem gw_of1 {w : Cond} (i : Nat) (h : tables_1_1[i]? = some w) (hg : goodWord w = true) : w ∈ gw := List.mem_filter.mpr ⟨lw_of1 i h, hg⟩
theorem lw_of2 {w : Cond} (i : Nat) (h : tables_1_2[i]? = some w) : w ∈ lw_tbl := List.mem_append_right _ (List.mem_append_right _ (List.mem_append_left _ (List.mem_of_getElem? h)))
theorem gw_of2 {w : Cond} (i : Nat) (h : tables_1_2[i]? = some w) (hg : goodWord w = true) : w ∈ gw := List.mem_filter.mpr ⟨lw_of2 i h, hg⟩
theorem lw_of3 {w : Cond} (i : Nat) (h : tables_1_3[i]? = some w) : w ∈ lw_tbl := List.mem_append_right _ (List.mem_append_right _ (List.mem_append_right _ (List.mem_append_left _ (List.mem_of_getElem? h))))
theorem gw_of3 {w : Cond} (i : Nat) (h : tables_1_3[i]? = some w) (hg : goodWord w = true) : w ∈ gw := List.mem_filter.mpr ⟨lw_of3 i h, hg⟩
theorem lw_of4 {w : Cond} (i : Nat) (h : tables_1_4[i]? = some w) : w ∈ lw_tbl := List.mem_append_right _ (List.mem_append_right _ (List.mem_append_right _ (List.mem_append_right _ (List.mem_append_left _ (List.mem_of_getElem? h)))))
theorem gw_of4 {w : Cond} (i : Nat) (h : tables_1_4[i]? = some w) (hg : goodWord w = true) : w ∈ gw := List.mem_filter.mpr ⟨lw_of4 i h, hg⟩
theorem lw_of5 {w : Cond} (i : Nat) (h : tables_1_5[i]? = some w) : w ∈ lw_tbl := List.mem_append_right _ (List.mem_append_right _ (List.mem_append_right _ (List.mem_append_right _ (List.mem_append_right _ (List.mem_append_left _ (List.mem_of_getElem? h))))))
theorem gw_of5 {w : Cond} (i : Nat) (h : tables_1_5[i]? = some w) (hg : goodWord w = true) : w ∈ gw := List.mem_filter.mpr ⟨lw_of5 i h, hg⟩
theorem lw_of6 {w : Cond} (i : Nat) (h : tables_1_6[i]? = some w) : w ∈ lw_tbl := List.mem_append_right _ (List.mem_append_right _ (List.mem_append_right _ (List.mem_append_right _ (List.mem_append_right _ (List.mem_append_right _ (List.mem_append_left _ (List.mem_of_getElem? h)))))))
theorem gw_of6 {w : Cond} (i : Nat) (h : tables_1_6[i]? = some w) (hg : goodWord w = true) : w ∈ gw := List.mem_filter.mpr ⟨lw_of6 i h, hg⟩
theorem lw_of7 {w : Cond} (i : Nat) (h : tables_1_7[i]? = some w) : w ∈ lw_tbl := List.mem_append_right _ (List.mem_append_right _ (List.mem_append_right _ (List.mem_append_right _ (List.mem_append_right _ (List.mem_append_right _ (List.mem_append_right _ (List.mem_append_left _ (List.mem_of_getElem? h))))))))
theorem gw_of7 {w : Cond} (i : Nat) (h : tables_1_7[i]? = some w) (hg : goodWord w = true) : w ∈ gw := List.mem_filter.mpr ⟨lw_of7 i h, hg⟩
theorem lw_of8 {w : Cond} (i : Nat) (h : tables_1_8[i]? = some w) : w ∈ lw_tbl := List.mem_append_right _ (List.mem_append_right _ (List.mem_append_right _ (List.mem_append_right _ (List.mem_append_right _ (List.mem_append_right _ (List.mem_append_right _ (List.mem_append_right _ ((List.mem_of_getElem? h)))))))))
theorem gw_of8 {w : Cond} (i : Nat) (h : tables_1_8[i]? = some w) (hg : goodWord w = true) : w ∈ gw := List.mem_filter.mpr ⟨lw_of8 i h, hg⟩
theorem gk_oi1 : Cond.instanceMethod objectInit ∈ gw := gw_of1 30 rfl rfl
theorem gk_oi2 : Cond.code objectInit ⟨#[0xb1]⟩ 1 none ∈ gw := gw_of1 31 rfl rfl
theorem clX0 : ∀ w ∈ u_ws RX0 TX0 10, w ∈ gw := by
  intro w hw
  obtain ⟨k, hk, rfl⟩ := List.mem_map.mp hw
  have hk := List.mem_range.mp hk
  match k, hk with
  | 0, _ => exact gw_of1 83 rfl rfl
  | 1, _ => exact gw_of1 85 rfl rfl
  | 2, _ => exact gw_of1 87 rfl rfl
  | 3, _ => exact gw_of1 89 rfl rfl
  | 4, _ => exact gw_of1 91 rfl rfl
  | 5, _ => exact gw_of1 93 rfl rfl
  | 6, _ => exact gw_of1 95 rfl rfl
  | 7, _ => exact gw_of1 97 rfl rfl
  | 8, _ => exact gw_of1 99 rfl rfl
  | 9, _ => exact gw_of1 101 rfl rfl
  | k + 10, hk => exact absurd hk (by omega)
theorem clX1 : ∀ w ∈ u_ws RX1 TX1 1, w ∈ gw := by
  intro w hw
  obtain ⟨k, hk, rfl⟩ := List.mem_map.mp hw
  have hk := List.mem_range.mp hk
  match k, hk with
  | 0, _ => exact gw_of2 117 rfl rfl
  | k + 1, hk => exact absurd hk (by omega)
theorem clX2 : ∀ w ∈ u_ws RX2 TX2 4, w ∈ gw := by
  intro w hw
  obtain ⟨k, hk, rfl⟩ := List.mem_map.mp hw
  have hk := List.mem_range.mp hk
  match k, hk with
  | 0, _ => exact gw_of1 50 rfl rfl
  | 1, _ => exact gw_of1 52 rfl rfl
  | 2, _ => exact gw_of1 54 rfl rfl
  | 3, _ => exact gw_of1 56 rfl rfl
  | k + 4, hk => exact absurd hk (by omega)
theorem clX3 : ∀ w ∈ u_ws RX3 TX3 4, w ∈ gw := by
  intro w hw
  obtain ⟨k, hk, rfl⟩ := List.mem_map.mp hw
  have hk := List.mem_range.mp hk
  match k, hk with
  | 0, _ => exact gw_of2 83 rfl rfl
  | 1, _ => exact gw_of2 85 rfl rfl
  | 2, _ => exact gw_of2 87 rfl rfl
  | 3, _ => exact gw_of2 89 rfl rfl
  | k + 4, hk => exact absurd hk (by omega)
theorem clX4 : ∀ w ∈ u_ws RX4 TX4 3, w ∈ gw := by
  intro w hw
  obtain ⟨k, hk, rfl⟩ := List.mem_map.mp hw
  have hk := List.mem_range.mp hk
  match k, hk with
  | 0, _ => exact gw_of2 40 rfl rfl
  | 1, _ => exact gw_of2 42 rfl rfl
  | 2, _ => exact gw_of2 44 rfl rfl
  | k + 3, hk => exact absurd hk (by omega)
theorem clX5 : ∀ w ∈ u_ws RX5 TX5 5, w ∈ gw := by
  intro w hw
  obtain ⟨k, hk, rfl⟩ := List.mem_map.mp hw
  have hk := List.mem_range.mp hk
  match k, hk with
  | 0, _ => exact gw_of1 230 rfl rfl
  | 1, _ => exact gw_of1 232 rfl rfl
  | 2, _ => exact gw_of1 234 rfl rfl
  | 3, _ => exact gw_of1 236 rfl rfl
  | 4, _ => exact gw_of1 238 rfl rfl
  | k + 5, hk => exact absurd hk (by omega)
theorem clX6 : ∀ w ∈ u_ws RX6 TX6 3, w ∈ gw := by
  intro w hw
  obtain ⟨k, hk, rfl⟩ := List.mem_map.mp hw
  have hk := List.mem_range.mp hk
  match k, hk with
  | 0, _ => exact gw_of2 103 rfl rfl
  | 1, _ => exact gw_of2 105 rfl rfl
  | 2, _ => exact gw_of2 107 rfl rfl
  | k + 3, hk => exact absurd hk (by omega)
theorem clX7 : ∀ w ∈ u_ws RX7 TX7 3, w ∈ gw := by
  intro w hw
  obtain ⟨k, hk, rfl⟩ := List.mem_map.mp hw
  have hk := List.mem_range.mp hk
  match k, hk with
  | 0, _ => exact gw_of1 209 rfl rfl
  | 1, _ => exact gw_of1 211 rfl rfl
  | 2, _ => exact gw_of1 213 rfl rfl
  | k + 3, hk => exact absurd hk (by omega)
theorem clX8 : ∀ w ∈ u_ws RX8 TX8 3, w ∈ gw := by
  intro w hw
  obtain ⟨k, hk, rfl⟩ := List.mem_map.mp hw
  have hk := List.mem_range.mp hk
  match k, hk with
  | 0, _ => exact gw_of2 57 rfl rfl
  | 1, _ => exact gw_of2 59 rfl rfl
  | 2, _ => exact gw_of2 61 rfl rfl
  | k + 3, hk => exact absurd hk (by omega)
theorem clX9 : ∀ w ∈ u_ws RX9 TX9 10, w ∈ gw := by
  intro w hw
  obtain ⟨k, hk, rfl⟩ := List.mem_map.mp hw
  have hk := List.mem_range.mp hk
  match k, hk with
  | 0, _ => exact gw_of1 177 rfl rfl
  | 1, _ => exact gw_of1 179 rfl rfl
  | 2, _ => exact gw_of1 181 rfl rfl
  | 3, _ => exact gw_of1 183 rfl rfl
  | 4, _ => exact gw_of1 185 rfl rfl
  | 5, _ => exact gw_of1 187 rfl rfl
  | 6, _ => exact gw_of1 189 rfl rfl
  | 7, _ => exact gw_of1 191 rfl rfl
  | 8, _ => exact gw_of1 193 rfl rfl
  | 9, _ => exact gw_of1 195 rfl rfl
  | k + 10, hk => exact absurd hk (by omega)
theorem clX10 : ∀ w ∈ u_ws RX10 TX10 5, w ∈ gw := by
  intro w hw
  obtain ⟨k, hk, rfl⟩ := List.mem_map.mp hw
  have hk := List.mem_range.mp hk
  match k, hk with
  | 0, _ => exact gw_of2 16 rfl rfl
  | 1, _ => exact gw_of2 18 rfl rfl
  | 2, _ => exact gw_of2 20 rfl rfl
  | 3, _ => exact gw_of2 22 rfl rfl
  | 4, _ => exact gw_of2 24 rfl rfl
  | k + 5, hk => exact absurd hk (by omega)
theorem clX11 : ∀ w ∈ u_ws RX11 TX11 14, w ∈ gw := by
  intro w hw
  obtain ⟨k, hk, rfl⟩ := List.mem_map.mp hw
  have hk := List.mem_range.mp hk
  match k, hk with
  | 0, _ => exact gw_of2 134 rfl rfl
  | 1, _ => exact gw_of2 136 rfl rfl
  | 2, _ => exact gw_of2 138 rfl rfl
  | 3, _ => exact gw_of2 140 rfl rfl
  | 4, _ => exact gw_of2 142 rfl rfl
  | 5, _ => exact gw_of2 144 rfl rfl
  | 6, _ => exact gw_of2 146 rfl rfl
  | 7, _ => exact gw_of2 148 rfl rfl
  | 8, _ => exact gw_of2 150 rfl rfl
  | 9, _ => exact gw_of2 152 rfl rfl
  | 10, _ => exact gw_of2 154 rfl rfl
  | 11, _ => exact gw_of2 156 rfl rfl
  | 12, _ => exact gw_of2 158 rfl rfl
  | 13, _ => exact gw_of2 160 rfl rfl
  | k + 14, hk => exact absurd hk (by omega)
theorem clX12 : ∀ w ∈ u_ws RX12 TX12 58, w ∈ gw := by
  intro w hw
  obtain ⟨k, hk, rfl⟩ := List.mem_map.mp hw
  have hk := List.mem_range.mp hk
  match k, hk with
  | 0, _ => exact gw_of5 178 rfl rfl
  | 1, _ => exact gw_of5 180 rfl rfl
  | 2, _ => exact gw_of5 182 rfl rfl
  | 3, _ => exact gw_of5 184 rfl rfl
  | 4, _ => exact gw_of5 186 rfl rfl
  | 5, _ => exact gw_of5 188 rfl rfl
  | 6, _ => exact gw_of5 190 rfl rfl
  | 7, _ => exact gw_of5 192 rfl rfl
  | 8, _ => exact gw_of5 194 rfl rfl
  | 9, _ => exact gw_of5 196 rfl rfl
  | 10, _ => exact gw_of5 198 rfl rfl
  | 11, _ => exact gw_of5 200 rfl rfl
  | 12, _ => exact gw_of5 202 rfl rfl
  | 13, _ => exact gw_of5 204 rfl rfl
  | 14, _ => exact gw_of5 206 rfl rfl
  | 15, _ => exact gw_of5 208 rfl rfl
  | 16, _ => exact gw_of5 210 rfl rfl
  | 17, _ => exact gw_of5 212 rfl rfl
  | 18, _ => exact gw_of5 214 rfl rfl
  | 19, _ => exact gw_of5 216 rfl rfl
  | 20, _ => exact gw_of5 218 rfl rfl
  | 21, _ => exact gw_of5 220 rfl rfl
  | 22, _ => exact gw_of5 222 rfl rfl
  | 23, _ => exact gw_of5 224 rfl rfl
  | 24, _ => exact gw_of5 226 rfl rfl
  | 25, _ => exact gw_of5 228 rfl rfl
  | 26, _ => exact gw_of5 230 rfl rfl
  | 27, _ => exact gw_of5 232 rfl rfl
  | 28, _ => exact gw_of5 234 rfl rfl
  | 29, _ => exact gw_of5 236 rfl rfl
  | 30, _ => exact gw_of5 238 rfl rfl
  | 31, _ => exact gw_of6 0 rfl rfl
  | 32, _ => exact gw_of6 2 rfl rfl
  | 33, _ => exact gw_of6 4 rfl rfl
  | 34, _ => exact gw_of6 6 rfl rfl
  | 35, _ => exact gw_of6 8 rfl rfl
  | 36, _ => exact gw_of6 10 rfl rfl
  | 37, _ => exact gw_of6 12 rfl rfl
  | 38, _ => exact gw_of6 14 rfl rfl
  | 39, _ => exact gw_of6 16 rfl rfl
  | 40, _ => exact gw_of6 18 rfl rfl
  | 41, _ => exact gw_of6 20 rfl rfl
  | 42, _ => exact gw_of6 22 rfl rfl
  | 43, _ => exact gw_of6 24 rfl rfl
  | 44, _ => exact gw_of6 26 rfl rfl
  | 45, _ => exact gw_of6 28 rfl rfl
  | 46, _ => exact gw_of6 30 rfl rfl
  | 47, _ => exact gw_of6 32 rfl rfl
  | 48, _ => exact gw_of6 34 rfl rfl
  | 49, _ => exact gw_of6 36 rfl rfl
  | 50, _ => exact gw_of6 38 rfl rfl
  | 51, _ => exact gw_of6 40 rfl rfl
  | 52, _ => exact gw_of6 42 rfl rfl
  | 53, _ => exact gw_of6 44 rfl rfl
  | 54, _ => exact gw_of6 46 rfl rfl
  | 55, _ => exact gw_of6 48 rfl rfl
  | 56, _ => exact gw_of6 50 rfl rfl
  | 57, _ => exact gw_of6 52 rfl rfl
  | k + 58, hk => exact absurd hk (by omega)
theorem gk_ar_long : Cond.arrayClass .long ∈ gw := gw_of1 59 rfl rfl
theorem gk_ar_int : Cond.arrayClass .int ∈ gw := gw_of1 60 rfl rfl
theorem gk_ar_char : Cond.arrayClass .char ∈ gw := gw_of1 198 rfl rfl
theorem gk_ar_boolean : Cond.arrayClass .boolean ∈ gw := gw_of2 64 rfl rfl
theorem gk_ao_RX3 : Cond.arrayOver (.object RX3) ∈ lw_tbl := lw_of2 66 rfl
theorem gk_ao_RX10 : Cond.arrayOver (.object RX10) ∈ lw_tbl := lw_of2 34 rfl
def YX0_init : YY := (yX0_init, cX0_init, 1, none, 0)
theorem cbX0_init : CB YX0_init := ⟨gw_of1 2 rfl rfl, gw_of1 36 rfl rfl, by decide +kernel, by decide⟩
def YX0_clear : YY := (yX0_clear, cX0_clear, 1, none, 0)
theorem cbX0_clear : CB YX0_clear := ⟨gw_of1 2 rfl rfl, gw_of2 212 rfl rfl, by decide +kernel, by decide⟩
def YX0_addShot : YY := (yX0_addShot, cX0_addShot, 5, none, 3)
theorem cbX0_addShot : CB YX0_addShot := ⟨gw_of1 2 rfl rfl, gw_of3 17 rfl rfl, by decide +kernel, by decide⟩
def YX0_addNeed : YY := (yX0_addNeed, cX0_addNeed, 3, none, 2)
theorem cbX0_addNeed : CB YX0_addNeed := ⟨gw_of1 2 rfl rfl, gw_of3 37 rfl rfl, by decide +kernel, by decide⟩
def YX0_addHall : YY := (yX0_addHall, cX0_addHall, 4, none, 2)
theorem cbX0_addHall : CB YX0_addHall := ⟨gw_of1 2 rfl rfl, gw_of3 77 rfl rfl, by decide +kernel, by decide⟩
def YX0_isShot : YY := (yX0_isShot, cX0_isShot, 2, (some .boolean), 1)
theorem cbX0_isShot : CB YX0_isShot := ⟨gw_of1 2 rfl rfl, gw_of3 33 rfl rfl, by decide +kernel, by decide⟩
def YX0_isHall : YY := (yX0_isHall, cX0_isHall, 2, (some .boolean), 1)
theorem cbX0_isHall : CB YX0_isHall := ⟨gw_of1 2 rfl rfl, gw_of3 93 rfl rfl, by decide +kernel, by decide⟩
def YX0_isNeeded : YY := (yX0_isNeeded, cX0_isNeeded, 3, (some .boolean), 2)
theorem cbX0_isNeeded : CB YX0_isNeeded := ⟨gw_of1 2 rfl rfl, gw_of3 29 rfl rfl, by decide +kernel, by decide⟩
def YX0_shotNamed : YY := (yX0_shotNamed, cX0_shotNamed, 4, (some .int), 1)
theorem cbX0_shotNamed : CB YX0_shotNamed := ⟨gw_of1 2 rfl rfl, gw_of2 233 rfl rfl, by decide +kernel, by decide⟩
def YX0_hallNamed : YY := (yX0_hallNamed, cX0_hallNamed, 4, (some .int), 1)
theorem cbX0_hallNamed : CB YX0_hallNamed := ⟨gw_of1 2 rfl rfl, gw_of2 237 rfl rfl, by decide +kernel, by decide⟩
def YX0_film : YY := (yX0_film, cX0_film, 1, (some .int), 0)
theorem cbX0_film : CB YX0_film := ⟨gw_of1 2 rfl rfl, gw_of3 108 rfl rfl, by decide +kernel, by decide⟩
def YX0_minutesOf : YY := (yX0_minutesOf, cX0_minutesOf, 4, (some .int), 1)
theorem cbX0_minutesOf : CB YX0_minutesOf := ⟨gw_of1 2 rfl rfl, gw_of3 204 rfl rfl, by decide +kernel, by decide⟩
def YX0_isLonger : YY := (yX0_isLonger, cX0_isLonger, 4, (some .boolean), 2)
theorem cbX0_isLonger : CB YX0_isLonger := ⟨gw_of1 2 rfl rfl, gw_of4 153 rfl rfl, by decide +kernel, by decide⟩
def YX0_shotAt : YY := (yX0_shotAt, cX0_shotAt, 5, (some .int), 2)
theorem cbX0_shotAt : CB YX0_shotAt := ⟨gw_of1 2 rfl rfl, gw_of4 56 rfl rfl, by decide +kernel, by decide⟩
def YX0_makesSense : YY := (yX0_makesSense, cX0_makesSense, 4, (some .boolean), 1)
theorem cbX0_makesSense : CB YX0_makesSense := ⟨gw_of1 2 rfl rfl, gw_of4 36 rfl rfl, by decide +kernel, by decide⟩
def YX0_allNeeds : YY := (yX0_allNeeds, cX0_allNeeds, 5, (some .int), 1)
theorem cbX0_allNeeds : CB YX0_allNeeds := ⟨gw_of1 2 rfl rfl, gw_of4 85 rfl rfl, by decide +kernel, by decide⟩
def YX0_shotsOfSort : YY := (yX0_shotsOfSort, cX0_shotsOfSort, 4, (some .int), 1)
theorem cbX0_shotsOfSort : CB YX0_shotsOfSort := ⟨gw_of1 2 rfl rfl, gw_of4 93 rfl rfl, by decide +kernel, by decide⟩
def YX0_unlikeFrom : YY := (yX0_unlikeFrom, cX0_unlikeFrom, 6, (some .int), 2)
theorem cbX0_unlikeFrom : CB YX0_unlikeFrom := ⟨gw_of1 2 rfl rfl, gw_of4 101 rfl rfl, by decide +kernel, by decide⟩
def YX0_takenOut : YY := (yX0_takenOut, cX0_takenOut, 4, (some .int), 2)
theorem cbX0_takenOut : CB YX0_takenOut := ⟨gw_of1 2 rfl rfl, gw_of3 163 rfl rfl, by decide +kernel, by decide⟩
def YX0_hatedIn : YY := (yX0_hatedIn, cX0_hatedIn, 8, (some .int), 2)
theorem cbX0_hatedIn : CB YX0_hatedIn := ⟨gw_of1 2 rfl rfl, gw_of3 167 rfl rfl, by decide +kernel, by decide⟩
def YX0_judgeAll : YY := (yX0_judgeAll, cX0_judgeAll, 5, none, 0)
theorem cbX0_judgeAll : CB YX0_judgeAll := ⟨gw_of1 2 rfl rfl, gw_of3 81 rfl rfl, by decide +kernel, by decide⟩
def YX0_judge : YY := (yX0_judge, cX0_judge, 7, none, 4)
theorem cbX0_judge : CB YX0_judge := ⟨gw_of1 2 rfl rfl, gw_of3 85 rfl rfl, by decide +kernel, by decide⟩
def YX0_keyOf : YY := (yX0_keyOf, cX0_keyOf, 5, (some .int), 3)
theorem cbX0_keyOf : CB YX0_keyOf := ⟨gw_of1 2 rfl rfl, gw_of3 89 rfl rfl, by decide +kernel, by decide⟩
def YX0_lastOf : YY := (yX0_lastOf, cX0_lastOf, 4, (some .int), 1)
theorem cbX0_lastOf : CB YX0_lastOf := ⟨gw_of1 2 rfl rfl, gw_of3 175 rfl rfl, by decide +kernel, by decide⟩
def YX0_behind : YY := (yX0_behind, cX0_behind, 6, (some .int), 2)
theorem cbX0_behind : CB YX0_behind := ⟨gw_of1 2 rfl rfl, gw_of3 171 rfl rfl, by decide +kernel, by decide⟩
def YX1_init : YY := (yX1_init, cX1_init, 1, none, 0)
theorem cbX1_init : CB YX1_init := ⟨gw_of1 16 rfl rfl, gw_of2 114 rfl rfl, by decide +kernel, by decide⟩
def YX1_begin : YY := (yX1_begin, cX1_begin, 2, none, 1)
theorem cbX1_begin : CB YX1_begin := ⟨gw_of1 16 rfl rfl, gw_of4 212 rfl rfl, by decide +kernel, by decide⟩
def YX1_below : YY := (yX1_below, cX1_below, 2, (some .int), 1)
theorem cbX1_below : CB YX1_below := ⟨gw_of1 16 rfl rfl, gw_of4 216 rfl rfl, by decide +kernel, by decide⟩
def YX2_init : YY := (yX2_init, cX2_init, 1, none, 0)
theorem cbX2_init : CB YX2_init := ⟨gw_of1 3 rfl rfl, gw_of1 42 rfl rfl, by decide +kernel, by decide⟩
def YX2_add : YY := (yX2_add, cX2_add, 2, none, 1)
theorem cbX2_add : CB YX2_add := ⟨gw_of1 3 rfl rfl, gw_of3 65 rfl rfl, by decide +kernel, by decide⟩
def YX2_valueFor : YY := (yX2_valueFor, cX2_valueFor, 9, (some .int), 5)
theorem cbX2_valueFor : CB YX2_valueFor := ⟨gw_of1 3 rfl rfl, gw_of3 97 rfl rfl, by decide +kernel, by decide⟩
def YX2_join : YY := (yX2_join, cX2_join, 3, (some .int), 3)
theorem cbX2_join : CB YX2_join := ⟨gw_of1 3 rfl rfl, gw_of3 100 rfl rfl, by decide +kernel, by decide⟩
def YX3_init : YY := (yX3_init, cX3_init, 1, none, 0)
theorem cbX3_init : CB YX3_init := ⟨gw_of1 14 rfl rfl, gw_of2 70 rfl rfl, by decide +kernel, by decide⟩
def YX3_lay : YY := (yX3_lay, cX3_lay, 4, none, 3)
theorem cbX3_lay : CB YX3_lay := ⟨gw_of1 14 rfl rfl, gw_of4 233 rfl rfl, by decide +kernel, by decide⟩
def YX3_goBack : YY := (yX3_goBack, cX3_goBack, 4, none, 3)
theorem cbX3_goBack : CB YX3_goBack := ⟨gw_of1 14 rfl rfl, gw_of5 6 rfl rfl, by decide +kernel, by decide⟩
def YX4_init : YY := (yX4_init, cX4_init, 2, none, 0)
theorem cbX4_init : CB YX4_init := ⟨gw_of1 12 rfl rfl, gw_of2 31 rfl rfl, by decide +kernel, by decide⟩
def YX4_keep : YY := (yX4_keep, cX4_keep, 2, none, 1)
theorem cbX4_keep : CB YX4_keep := ⟨gw_of1 12 rfl rfl, gw_of3 183 rfl rfl, by decide +kernel, by decide⟩
def YX4_takeBack : YY := (yX4_takeBack, cX4_takeBack, 3, (some .boolean), 1)
theorem cbX4_takeBack : CB YX4_takeBack := ⟨gw_of1 12 rfl rfl, gw_of4 15 rfl rfl, by decide +kernel, by decide⟩
def YX4_forget : YY := (yX4_forget, cX4_forget, 1, none, 0)
theorem cbX4_forget : CB YX4_forget := ⟨gw_of1 12 rfl rfl, gw_of3 120 rfl rfl, by decide +kernel, by decide⟩
def YX5_init : YY := (yX5_init, cX5_init, 1, none, 0)
theorem cbX5_init : CB YX5_init := ⟨gw_of1 10 rfl rfl, gw_of1 220 rfl rfl, by decide +kernel, by decide⟩
def YX5_clear : YY := (yX5_clear, cX5_clear, 1, none, 0)
theorem cbX5_clear : CB YX5_clear := ⟨gw_of1 10 rfl rfl, gw_of3 116 rfl rfl, by decide +kernel, by decide⟩
def YX5_add : YY := (yX5_add, cX5_add, 5, none, 4)
theorem cbX5_add : CB YX5_add := ⟨gw_of1 10 rfl rfl, gw_of3 141 rfl rfl, by decide +kernel, by decide⟩
def YX5_copy : YY := (yX5_copy, cX5_copy, 3, none, 1)
theorem cbX5_copy : CB YX5_copy := ⟨gw_of1 10 rfl rfl, gw_of4 238 rfl rfl, by decide +kernel, by decide⟩
def YX5_isPossible : YY := (yX5_isPossible, cX5_isPossible, 4, (some .boolean), 3)
theorem cbX5_isPossible : CB YX5_isPossible := ⟨gw_of1 10 rfl rfl, gw_of4 23 rfl rfl, by decide +kernel, by decide⟩
def YX5_follow : YY := (yX5_follow, cX5_follow, 4, none, 3)
theorem cbX5_follow : CB YX5_follow := ⟨gw_of1 10 rfl rfl, gw_of4 28 rfl rfl, by decide +kernel, by decide⟩
def YX6_init : YY := (yX6_init, cX6_init, 1, none, 0)
theorem cbX6_init : CB YX6_init := ⟨gw_of1 15 rfl rfl, gw_of2 96 rfl rfl, by decide +kernel, by decide⟩
def YX6_find : YY := (yX6_find, cX6_find, 4, none, 3)
theorem cbX6_find : CB YX6_find := ⟨gw_of1 15 rfl rfl, gw_of4 118 rfl rfl, by decide +kernel, by decide⟩
def YX6_search : YY := (yX6_search, cX6_search, 8, none, 5)
theorem cbX6_search : CB YX6_search := ⟨gw_of1 15 rfl rfl, gw_of4 122 rfl rfl, by decide +kernel, by decide⟩
def YX6_keepPath : YY := (yX6_keepPath, cX6_keepPath, 2, none, 0)
theorem cbX6_keepPath : CB YX6_keepPath := ⟨gw_of1 15 rfl rfl, gw_of4 126 rfl rfl, by decide +kernel, by decide⟩
def YX7_init : YY := (yX7_init, cX7_init, 3, none, 2)
theorem cbX7_init : CB YX7_init := ⟨gw_of1 9 rfl rfl, gw_of1 204 rfl rfl, by decide +kernel, by decide⟩
def YX7_readCounty : YY := (yX7_readCounty, cX7_readCounty, 4, (some .int), 1)
theorem cbX7_readCounty : CB YX7_readCounty := ⟨gw_of1 9 rfl rfl, gw_of2 178 rfl rfl, by decide +kernel, by decide⟩
def YX7_readPlan : YY := (yX7_readPlan, cX7_readPlan, 5, (some .int), 2)
theorem cbX7_readPlan : CB YX7_readPlan := ⟨gw_of1 9 rfl rfl, gw_of3 128 rfl rfl, by decide +kernel, by decide⟩
def YX7_begin : YY := (yX7_begin, cX7_begin, 2, none, 1)
theorem cbX7_begin : CB YX7_begin := ⟨gw_of1 9 rfl rfl, gw_of2 182 rfl rfl, by decide +kernel, by decide⟩
def YX7_fail : YY := (yX7_fail, cX7_fail, 2, (some .boolean), 1)
theorem cbX7_fail : CB YX7_fail := ⟨gw_of1 9 rfl rfl, gw_of2 220 rfl rfl, by decide +kernel, by decide⟩
def YX7_readShot : YY := (yX7_readShot, cX7_readShot, 5, (some .boolean), 0)
theorem cbX7_readShot : CB YX7_readShot := ⟨gw_of1 9 rfl rfl, gw_of2 216 rfl rfl, by decide +kernel, by decide⟩
def YX7_readNeeds : YY := (yX7_readNeeds, cX7_readNeeds, 3, (some .boolean), 0)
theorem cbX7_readNeeds : CB YX7_readNeeds := ⟨gw_of1 9 rfl rfl, gw_of3 21 rfl rfl, by decide +kernel, by decide⟩
def YX7_readHall : YY := (yX7_readHall, cX7_readHall, 4, (some .boolean), 0)
theorem cbX7_readHall : CB YX7_readHall := ⟨gw_of1 9 rfl rfl, gw_of3 41 rfl rfl, by decide +kernel, by decide⟩
def YX7_readPlanLine : YY := (yX7_readPlanLine, cX7_readPlanLine, 4, (some .boolean), 1)
theorem cbX7_readPlanLine : CB YX7_readPlanLine := ⟨gw_of1 9 rfl rfl, gw_of3 133 rfl rfl, by decide +kernel, by decide⟩
def YX7_readBare : YY := (yX7_readBare, cX7_readBare, 3, (some .boolean), 2)
theorem cbX7_readBare : CB YX7_readBare := ⟨gw_of1 9 rfl rfl, gw_of3 145 rfl rfl, by decide +kernel, by decide⟩
def YX7_readHandling : YY := (yX7_readHandling, cX7_readHandling, 6, (some .boolean), 2)
theorem cbX7_readHandling : CB YX7_readHandling := ⟨gw_of1 9 rfl rfl, gw_of3 137 rfl rfl, by decide +kernel, by decide⟩
def YX7_isName : YY := (yX7_isName, cX7_isName, 1, (some .boolean), 0)
theorem cbX7_isName : CB YX7_isName := ⟨gw_of1 9 rfl rfl, gw_of2 229 rfl rfl, by decide +kernel, by decide⟩
def YX7_takeNewName : YY := (yX7_takeNewName, cX7_takeNewName, 1, (some .boolean), 0)
theorem cbX7_takeNewName : CB YX7_takeNewName := ⟨gw_of1 9 rfl rfl, gw_of2 225 rfl rfl, by decide +kernel, by decide⟩
def YX7_takeTold : YY := (yX7_takeTold, cX7_takeTold, 2, (some .boolean), 1)
theorem cbX7_takeTold : CB YX7_takeTold := ⟨gw_of1 9 rfl rfl, gw_of3 25 rfl rfl, by decide +kernel, by decide⟩
def YX7_takeKeyword : YY := (yX7_takeKeyword, cX7_takeKeyword, 2, (some .boolean), 1)
theorem cbX7_takeKeyword : CB YX7_takeKeyword := ⟨gw_of1 9 rfl rfl, gw_of3 1 rfl rfl, by decide +kernel, by decide⟩
def YX7_takeNumber : YY := (yX7_takeNumber, cX7_takeNumber, 3, (some .boolean), 2)
theorem cbX7_takeNumber : CB YX7_takeNumber := ⟨gw_of1 9 rfl rfl, gw_of3 5 rfl rfl, by decide +kernel, by decide⟩
def YX7_takeSemicolon : YY := (yX7_takeSemicolon, cX7_takeSemicolon, 1, (some .boolean), 0)
theorem cbX7_takeSemicolon : CB YX7_takeSemicolon := ⟨gw_of1 9 rfl rfl, gw_of3 9 rfl rfl, by decide +kernel, by decide⟩
def YX7_readExpression : YY := (yX7_readExpression, cX7_readExpression, 4, (some .boolean), 1)
theorem cbX7_readExpression : CB YX7_readExpression := ⟨gw_of1 9 rfl rfl, gw_of3 45 rfl rfl, by decide +kernel, by decide⟩
def YX7_readTest : YY := (yX7_readTest, cX7_readTest, 3, (some .boolean), 1)
theorem cbX7_readTest : CB YX7_readTest := ⟨gw_of1 9 rfl rfl, gw_of3 49 rfl rfl, by decide +kernel, by decide⟩
def YX7_readSum : YY := (yX7_readSum, cX7_readSum, 4, (some .boolean), 1)
theorem cbX7_readSum : CB YX7_readSum := ⟨gw_of1 9 rfl rfl, gw_of3 53 rfl rfl, by decide +kernel, by decide⟩
def YX7_readProduct : YY := (yX7_readProduct, cX7_readProduct, 3, (some .boolean), 1)
theorem cbX7_readProduct : CB YX7_readProduct := ⟨gw_of1 9 rfl rfl, gw_of3 57 rfl rfl, by decide +kernel, by decide⟩
def YX7_readPart : YY := (yX7_readPart, cX7_readPart, 6, (some .boolean), 1)
theorem cbX7_readPart : CB YX7_readPart := ⟨gw_of1 9 rfl rfl, gw_of3 61 rfl rfl, by decide +kernel, by decide⟩
def YX7_readBracketed : YY := (yX7_readBracketed, cX7_readBracketed, 2, (some .boolean), 1)
theorem cbX7_readBracketed : CB YX7_readBracketed := ⟨gw_of1 9 rfl rfl, gw_of3 69 rfl rfl, by decide +kernel, by decide⟩
def YX7_readNegated : YY := (yX7_readNegated, cX7_readNegated, 2, (some .boolean), 1)
theorem cbX7_readNegated : CB YX7_readNegated := ⟨gw_of1 9 rfl rfl, gw_of3 73 rfl rfl, by decide +kernel, by decide⟩
def YX8_init : YY := (yX8_init, cX8_init, 1, none, 0)
theorem cbX8_init : CB YX8_init := ⟨gw_of1 13 rfl rfl, gw_of2 51 rfl rfl, by decide +kernel, by decide⟩
def YX8_add : YY := (yX8_add, cX8_add, 3, (some .boolean), 2)
theorem cbX8_add : CB YX8_add := ⟨gw_of1 13 rfl rfl, gw_of4 183 rfl rfl, by decide +kernel, by decide⟩
def YX8_copy : YY := (yX8_copy, cX8_copy, 3, none, 1)
theorem cbX8_copy : CB YX8_copy := ⟨gw_of1 13 rfl rfl, gw_of5 2 rfl rfl, by decide +kernel, by decide⟩
def YX8_fit : YY := (yX8_fit, cX8_fit, 3, (some .boolean), 1)
theorem cbX8_fit : CB YX8_fit := ⟨gw_of1 13 rfl rfl, gw_of4 191 rfl rfl, by decide +kernel, by decide⟩
def YX9_init : YY := (yX9_init, cX9_init, 4, none, 0)
theorem cbX9_init : CB YX9_init := ⟨gw_of1 4 rfl rfl, gw_of1 108 rfl rfl, by decide +kernel, by decide⟩
def YX9_addBytes : YY := (yX9_addBytes, cX9_addBytes, 6, none, 1)
theorem cbX9_addBytes : CB YX9_addBytes := ⟨gw_of1 4 rfl rfl, gw_of2 170 rfl rfl, by decide +kernel, by decide⟩
def YX9_start : YY := (yX9_start, cX9_start, 1, none, 0)
theorem cbX9_start : CB YX9_start := ⟨gw_of1 4 rfl rfl, gw_of2 186 rfl rfl, by decide +kernel, by decide⟩
def YX9_advance : YY := (yX9_advance, cX9_advance, 1, none, 0)
theorem cbX9_advance : CB YX9_advance := ⟨gw_of1 4 rfl rfl, gw_of2 190 rfl rfl, by decide +kernel, by decide⟩
def YX9_takeWord : YY := (yX9_takeWord, cX9_takeWord, 2, none, 0)
theorem cbX9_takeWord : CB YX9_takeWord := ⟨gw_of1 4 rfl rfl, gw_of2 197 rfl rfl, by decide +kernel, by decide⟩
def YX9_takeNumber : YY := (yX9_takeNumber, cX9_takeNumber, 1, none, 0)
theorem cbX9_takeNumber : CB YX9_takeNumber := ⟨gw_of1 4 rfl rfl, gw_of2 204 rfl rfl, by decide +kernel, by decide⟩
def YX9_takeSign : YY := (yX9_takeSign, cX9_takeSign, 1, none, 0)
theorem cbX9_takeSign : CB YX9_takeSign := ⟨gw_of1 4 rfl rfl, gw_of2 208 rfl rfl, by decide +kernel, by decide⟩
def YX9_isSign : YY := (yX9_isSign, cX9_isSign, 2, (some .boolean), 1)
theorem cbX9_isSign : CB YX9_isSign := ⟨gw_of1 4 rfl rfl, gw_of3 13 rfl rfl, by decide +kernel, by decide⟩
def YX9_isLetter : YY := (yX9_isLetter, cX9_isLetter, 1, (some .boolean), 1)
theorem cbX9_isLetter : CB YX9_isLetter := ⟨gw_of1 4 rfl rfl, gw_of2 193 rfl rfl, by decide +kernel, by decide⟩
def YX9_isDigit : YY := (yX9_isDigit, cX9_isDigit, 1, (some .boolean), 1)
theorem cbX9_isDigit : CB YX9_isDigit := ⟨gw_of1 4 rfl rfl, gw_of2 200 rfl rfl, by decide +kernel, by decide⟩
def YX10_init : YY := (yX10_init, cX10_init, 1, none, 0)
theorem cbX10_init : CB YX10_init := ⟨gw_of1 11 rfl rfl, gw_of2 5 rfl rfl, by decide +kernel, by decide⟩
def YX10_begin : YY := (yX10_begin, cX10_begin, 3, none, 1)
theorem cbX10_begin : CB YX10_begin := ⟨gw_of1 11 rfl rfl, gw_of3 112 rfl rfl, by decide +kernel, by decide⟩
def YX10_copy : YY := (yX10_copy, cX10_copy, 3, none, 1)
theorem cbX10_copy : CB YX10_copy := ⟨gw_of1 11 rfl rfl, gw_of3 187 rfl rfl, by decide +kernel, by decide⟩
def YX10_swapPlace : YY := (yX10_swapPlace, cX10_swapPlace, 3, (some .int), 2)
theorem cbX10_swapPlace : CB YX10_swapPlace := ⟨gw_of1 11 rfl rfl, gw_of3 159 rfl rfl, by decide +kernel, by decide⟩
def YX10_drawn : YY := (yX10_drawn, cX10_drawn, 3, (some .int), 0)
theorem cbX10_drawn : CB YX10_drawn := ⟨gw_of1 11 rfl rfl, gw_of4 149 rfl rfl, by decide +kernel, by decide⟩
def YX10_holds : YY := (yX10_holds, cX10_holds, 3, (some .boolean), 2)
theorem cbX10_holds : CB YX10_holds := ⟨gw_of1 11 rfl rfl, gw_of3 216 rfl rfl, by decide +kernel, by decide⟩
def YX10_holderOf : YY := (yX10_holderOf, cX10_holderOf, 3, (some .int), 1)
theorem cbX10_holderOf : CB YX10_holderOf := ⟨gw_of1 11 rfl rfl, gw_of4 166 rfl rfl, by decide +kernel, by decide⟩
def YX10_showAt : YY := (yX10_showAt, cX10_showAt, 4, none, 2)
theorem cbX10_showAt : CB YX10_showAt := ⟨gw_of1 11 rfl rfl, gw_of3 198 rfl rfl, by decide +kernel, by decide⟩
def YX10_showNext : YY := (yX10_showNext, cX10_showNext, 3, (some .int), 1)
theorem cbX10_showNext : CB YX10_showNext := ⟨gw_of1 11 rfl rfl, gw_of3 194 rfl rfl, by decide +kernel, by decide⟩
def YX10_giveBack : YY := (yX10_giveBack, cX10_giveBack, 3, none, 2)
theorem cbX10_giveBack : CB YX10_giveBack := ⟨gw_of1 11 rfl rfl, gw_of3 220 rfl rfl, by decide +kernel, by decide⟩
def YX10_handOver : YY := (yX10_handOver, cX10_handOver, 4, none, 3)
theorem cbX10_handOver : CB YX10_handOver := ⟨gw_of1 11 rfl rfl, gw_of3 235 rfl rfl, by decide +kernel, by decide⟩
def YX10_turnRound : YY := (yX10_turnRound, cX10_turnRound, 1, none, 0)
theorem cbX10_turnRound : CB YX10_turnRound := ⟨gw_of1 11 rfl rfl, gw_of4 3 rfl rfl, by decide +kernel, by decide⟩
def YX11_init : YY := (yX11_init, cX11_init, 2, none, 0)
theorem cbX11_init : CB YX11_init := ⟨gw_of1 1 rfl rfl, gw_of1 28 rfl rfl, by decide +kernel, by decide⟩
def YX11_feed : YY := (yX11_feed, cX11_feed, 7, (some .int), 3)
theorem cbX11_feed : CB YX11_feed := ⟨gw_of1 1 rfl rfl, gw_of2 166 rfl rfl, by decide +kernel, by decide⟩
def YX11_county : YY := (yX11_county, cX11_county, 3, (some .int), 0)
theorem cbX11_county : CB YX11_county := ⟨gw_of1 1 rfl rfl, gw_of2 174 rfl rfl, by decide +kernel, by decide⟩
def YX11_round : YY := (yX11_round, cX11_round, 3, (some .int), 0)
theorem cbX11_round : CB YX11_round := ⟨gw_of1 1 rfl rfl, gw_of3 124 rfl rfl, by decide +kernel, by decide⟩
def YX11_shot : YY := (yX11_shot, cX11_shot, 3, (some .int), 2)
theorem cbX11_shot : CB YX11_shot := ⟨gw_of1 1 rfl rfl, gw_of3 149 rfl rfl, by decide +kernel, by decide⟩
def YX11_hall : YY := (yX11_hall, cX11_hall, 3, (some .int), 2)
theorem cbX11_hall : CB YX11_hall := ⟨gw_of1 1 rfl rfl, gw_of3 154 rfl rfl, by decide +kernel, by decide⟩
def YX11_show : YY := (yX11_show, cX11_show, 1, (some .int), 0)
theorem cbX11_show : CB YX11_show := ⟨gw_of1 1 rfl rfl, gw_of3 179 rfl rfl, by decide +kernel, by decide⟩
def YX11_give : YY := (yX11_give, cX11_give, 3, (some .int), 2)
theorem cbX11_give : CB YX11_give := ⟨gw_of1 1 rfl rfl, gw_of3 208 rfl rfl, by decide +kernel, by decide⟩
def YX11_trade : YY := (yX11_trade, cX11_trade, 4, (some .boolean), 3)
theorem cbX11_trade : CB YX11_trade := ⟨gw_of1 1 rfl rfl, gw_of3 231 rfl rfl, by decide +kernel, by decide⟩
def YX11_turn : YY := (yX11_turn, cX11_turn, 1, (some .int), 0)
theorem cbX11_turn : CB YX11_turn := ⟨gw_of1 1 rfl rfl, gw_of3 239 rfl rfl, by decide +kernel, by decide⟩
def YX11_undo : YY := (yX11_undo, cX11_undo, 1, (some .boolean), 0)
theorem cbX11_undo : CB YX11_undo := ⟨gw_of1 1 rfl rfl, gw_of4 11 rfl rfl, by decide +kernel, by decide⟩
def YX11_judged : YY := (yX11_judged, cX11_judged, 6, (some .int), 1)
theorem cbX11_judged : CB YX11_judged := ⟨gw_of1 1 rfl rfl, gw_of4 19 rfl rfl, by decide +kernel, by decide⟩
def YX11_shown : YY := (yX11_shown, cX11_shown, 4, (some .int), 2)
theorem cbX11_shown : CB YX11_shown := ⟨gw_of1 1 rfl rfl, gw_of4 40 rfl rfl, by decide +kernel, by decide⟩
def YX11_minutes : YY := (yX11_minutes, cX11_minutes, 3, (some .int), 1)
theorem cbX11_minutes : CB YX11_minutes := ⟨gw_of1 1 rfl rfl, gw_of4 60 rfl rfl, by decide +kernel, by decide⟩
def YX11_silly : YY := (yX11_silly, cX11_silly, 4, (some .int), 0)
theorem cbX11_silly : CB YX11_silly := ⟨gw_of1 1 rfl rfl, gw_of4 64 rfl rfl, by decide +kernel, by decide⟩
def YX11_lasts : YY := (yX11_lasts, cX11_lasts, 2, (some .int), 0)
theorem cbX11_lasts : CB YX11_lasts := ⟨gw_of1 1 rfl rfl, gw_of4 68 rfl rfl, by decide +kernel, by decide⟩
def YX11_sense : YY := (yX11_sense, cX11_sense, 1, (some .boolean), 0)
theorem cbX11_sense : CB YX11_sense := ⟨gw_of1 1 rfl rfl, gw_of4 73 rfl rfl, by decide +kernel, by decide⟩
def YX11_gone : YY := (yX11_gone, cX11_gone, 6, (some .int), 1)
theorem cbX11_gone : CB YX11_gone := ⟨gw_of1 1 rfl rfl, gw_of4 77 rfl rfl, by decide +kernel, by decide⟩
def YX11_saves : YY := (yX11_saves, cX11_saves, 2, (some .int), 1)
theorem cbX11_saves : CB YX11_saves := ⟨gw_of1 1 rfl rfl, gw_of5 18 rfl rfl, by decide +kernel, by decide⟩
def YX11_kin : YY := (yX11_kin, cX11_kin, 2, (some .int), 1)
theorem cbX11_kin : CB YX11_kin := ⟨gw_of1 1 rfl rfl, gw_of4 81 rfl rfl, by decide +kernel, by decide⟩
def YX11_hoard : YY := (yX11_hoard, cX11_hoard, 7, (some .int), 1)
theorem cbX11_hoard : CB YX11_hoard := ⟨gw_of1 1 rfl rfl, gw_of4 89 rfl rfl, by decide +kernel, by decide⟩
def YX11_longest : YY := (yX11_longest, cX11_longest, 3, (some .int), 0)
theorem cbX11_longest : CB YX11_longest := ⟨gw_of1 1 rfl rfl, gw_of4 97 rfl rfl, by decide +kernel, by decide⟩
def YX11_order : YY := (yX11_order, cX11_order, 3, (some .int), 1)
theorem cbX11_order : CB YX11_order := ⟨gw_of1 1 rfl rfl, gw_of4 110 rfl rfl, by decide +kernel, by decide⟩
def YX11_ride : YY := (yX11_ride, cX11_ride, 5, (some .int), 0)
theorem cbX11_ride : CB YX11_ride := ⟨gw_of1 1 rfl rfl, gw_of4 133 rfl rfl, by decide +kernel, by decide⟩
def YX11_other : YY := (yX11_other, cX11_other, 5, (some .int), 1)
theorem cbX11_other : CB YX11_other := ⟨gw_of1 1 rfl rfl, gw_of4 145 rfl rfl, by decide +kernel, by decide⟩
def YX11_mends : YY := (yX11_mends, cX11_mends, 5, (some .int), 0)
theorem cbX11_mends : CB YX11_mends := ⟨gw_of1 1 rfl rfl, gw_of4 158 rfl rfl, by decide +kernel, by decide⟩
def YX11_where : YY := (yX11_where, cX11_where, 2, (some .int), 1)
theorem cbX11_where : CB YX11_where := ⟨gw_of1 1 rfl rfl, gw_of4 162 rfl rfl, by decide +kernel, by decide⟩
def YX11_taste : YY := (yX11_taste, cX11_taste, 5, (some .int), 2)
theorem cbX11_taste : CB YX11_taste := ⟨gw_of1 1 rfl rfl, gw_of4 170 rfl rfl, by decide +kernel, by decide⟩
def YX11_mild : YY := (yX11_mild, cX11_mild, 5, (some .int), 0)
theorem cbX11_mild : CB YX11_mild := ⟨gw_of1 1 rfl rfl, gw_of4 175 rfl rfl, by decide +kernel, by decide⟩
def YX11_see : YY := (yX11_see, cX11_see, 3, (some .boolean), 2)
theorem cbX11_see : CB YX11_see := ⟨gw_of1 1 rfl rfl, gw_of4 179 rfl rfl, by decide +kernel, by decide⟩
def YX11_halls : YY := (yX11_halls, cX11_halls, 3, (some .int), 0)
theorem cbX11_halls : CB YX11_halls := ⟨gw_of1 1 rfl rfl, gw_of4 187 rfl rfl, by decide +kernel, by decide⟩
def YX11_ask : YY := (yX11_ask, cX11_ask, 6, (some .int), 0)
theorem cbX11_ask : CB YX11_ask := ⟨gw_of1 1 rfl rfl, gw_of4 195 rfl rfl, by decide +kernel, by decide⟩
def YX11_rests : YY := (yX11_rests, cX11_rests, 7, (some .int), 4)
theorem cbX11_rests : CB YX11_rests := ⟨gw_of1 1 rfl rfl, gw_of5 94 rfl rfl, by decide +kernel, by decide⟩
def YX11_share : YY := (yX11_share, cX11_share, 3, (some .int), 1)
theorem cbX11_share : CB YX11_share := ⟨gw_of1 1 rfl rfl, gw_of4 204 rfl rfl, by decide +kernel, by decide⟩
def YX11_tours : YY := (yX11_tours, cX11_tours, 8, (some .int), 3)
theorem cbX11_tours : CB YX11_tours := ⟨gw_of1 1 rfl rfl, gw_of4 208 rfl rfl, by decide +kernel, by decide⟩
def YX11_mark : YY := (yX11_mark, cX11_mark, 3, (some .boolean), 2)
theorem cbX11_mark : CB YX11_mark := ⟨gw_of1 1 rfl rfl, gw_of4 229 rfl rfl, by decide +kernel, by decide⟩
def YX11_count : YY := (yX11_count, cX11_count, 2, (some .int), 1)
theorem cbX11_count : CB YX11_count := ⟨gw_of1 1 rfl rfl, gw_of5 10 rfl rfl, by decide +kernel, by decide⟩
def YX11_beginAnew : YY := (yX11_beginAnew, cX11_beginAnew, 2, none, 0)
theorem cbX11_beginAnew : CB YX11_beginAnew := ⟨gw_of1 1 rfl rfl, gw_of3 104 rfl rfl, by decide +kernel, by decide⟩
def YX11_liesIn : YY := (yX11_liesIn, cX11_liesIn, 3, (some .boolean), 2)
theorem cbX11_liesIn : CB YX11_liesIn := ⟨gw_of1 1 rfl rfl, gw_of3 212 rfl rfl, by decide +kernel, by decide⟩
def YX11_nextHall : YY := (yX11_nextHall, cX11_nextHall, 1, (some .int), 0)
theorem cbX11_nextHall : CB YX11_nextHall := ⟨gw_of1 1 rfl rfl, gw_of4 7 rfl rfl, by decide +kernel, by decide⟩
def YX11_nextPlace : YY := (yX11_nextPlace, cX11_nextPlace, 1, (some .int), 0)
theorem cbX11_nextPlace : CB YX11_nextPlace := ⟨gw_of1 1 rfl rfl, gw_of4 52 rfl rfl, by decide +kernel, by decide⟩
def YX11_isAhead : YY := (yX11_isAhead, cX11_isAhead, 2, (some .boolean), 1)
theorem cbX11_isAhead : CB YX11_isAhead := ⟨gw_of1 1 rfl rfl, gw_of4 48 rfl rfl, by decide +kernel, by decide⟩
def YX11_hallsAhead : YY := (yX11_hallsAhead, cX11_hallsAhead, 3, (some .int), 0)
theorem cbX11_hallsAhead : CB YX11_hallsAhead := ⟨gw_of1 1 rfl rfl, gw_of4 114 rfl rfl, by decide +kernel, by decide⟩
def YX11_rowShownAt : YY := (yX11_rowShownAt, cX11_rowShownAt, 5, (some .int), 1)
theorem cbX11_rowShownAt : CB YX11_rowShownAt := ⟨gw_of1 1 rfl rfl, gw_of4 44 rfl rfl, by decide +kernel, by decide⟩
def YX11_minutesTogether : YY := (yX11_minutesTogether, cX11_minutesTogether, 6, (some .int), 1)
theorem cbX11_minutesTogether : CB YX11_minutesTogether := ⟨gw_of1 1 rfl rfl, gw_of5 87 rfl rfl, by decide +kernel, by decide⟩
def YX11_fillRows : YY := (yX11_fillRows, cX11_fillRows, 2, none, 0)
theorem cbX11_fillRows : CB YX11_fillRows := ⟨gw_of1 1 rfl rfl, gw_of4 137 rfl rfl, by decide +kernel, by decide⟩
def YX11_seenBy : YY := (yX11_seenBy, cX11_seenBy, 4, (some .int), 1)
theorem cbX11_seenBy : CB YX11_seenBy := ⟨gw_of1 1 rfl rfl, gw_of4 141 rfl rfl, by decide +kernel, by decide⟩
def YX11_greaterPart : YY := (yX11_greaterPart, cX11_greaterPart, 5, (some .int), 2)
theorem cbX11_greaterPart : CB YX11_greaterPart := ⟨gw_of1 1 rfl rfl, gw_of4 200 rfl rfl, by decide +kernel, by decide⟩
def YX11_giveBackByDraw : YY := (yX11_giveBackByDraw, cX11_giveBackByDraw, 3, none, 0)
theorem cbX11_giveBackByDraw : CB YX11_giveBackByDraw := ⟨gw_of1 1 rfl rfl, gw_of4 225 rfl rfl, by decide +kernel, by decide⟩
def YX11_isBid : YY := (yX11_isBid, cX11_isBid, 1, (some .boolean), 1)
theorem cbX11_isBid : CB YX11_isBid := ⟨gw_of1 1 rfl rfl, gw_of5 97 rfl rfl, by decide +kernel, by decide⟩
def YX11_isAtRest : YY := (yX11_isAtRest, cX11_isAtRest, 6, (some .boolean), 4)
theorem cbX11_isAtRest : CB YX11_isAtRest := ⟨gw_of1 1 rfl rfl, gw_of5 101 rfl rfl, by decide +kernel, by decide⟩
def YX11_gain : YY := (yX11_gain, cX11_gain, 5, (some .int), 5)
theorem cbX11_gain : CB YX11_gain := ⟨gw_of1 1 rfl rfl, gw_of5 104 rfl rfl, by decide +kernel, by decide⟩
def YX12_init : YY := (yX12_init, cX12_init, 1, none, 0)
theorem cbX12_init : CB YX12_init := ⟨gw_of1 17 rfl rfl, gw_of5 110 rfl rfl, by decide +kernel, by decide⟩
def YX12_thrown : YY := (yX12_thrown, cX12_thrown, 1, (some .int), 0)
theorem cbX12_thrown : CB YX12_thrown := ⟨gw_of1 17 rfl rfl, gw_of6 58 rfl rfl, by decide +kernel, by decide⟩
def YX12_within : YY := (yX12_within, cX12_within, 3, (some .boolean), 3)
theorem cbX12_within : CB YX12_within := ⟨gw_of1 17 rfl rfl, gw_of6 141 rfl rfl, by decide +kernel, by decide⟩
def YX12_bits : YY := (yX12_bits, cX12_bits, 3, (some .int), 1)
theorem cbX12_bits : CB YX12_bits := ⟨gw_of1 17 rfl rfl, gw_of7 45 rfl rfl, by decide +kernel, by decide⟩
def YX12_feed : YY := (yX12_feed, cX12_feed, 11, (some .int), 3)
theorem cbX12_feed : CB YX12_feed := ⟨gw_of1 17 rfl rfl, gw_of6 62 rfl rfl, by decide +kernel, by decide⟩
def YX12_signAt : YY := (yX12_signAt, cX12_signAt, 2, (some .int), 1)
theorem cbX12_signAt : CB YX12_signAt := ⟨gw_of1 17 rfl rfl, gw_of6 83 rfl rfl, by decide +kernel, by decide⟩
def YX12_nextToken : YY := (yX12_nextToken, cX12_nextToken, 2, none, 0)
theorem cbX12_nextToken : CB YX12_nextToken := ⟨gw_of1 17 rfl rfl, gw_of6 79 rfl rfl, by decide +kernel, by decide⟩
def YX12_isWord : YY := (yX12_isWord, cX12_isWord, 3, (some .boolean), 1)
theorem cbX12_isWord : CB YX12_isWord := ⟨gw_of1 17 rfl rfl, gw_of6 90 rfl rfl, by decide +kernel, by decide⟩
def YX12_isSign : YY := (yX12_isSign, cX12_isSign, 2, (some .boolean), 1)
theorem cbX12_isSign : CB YX12_isSign := ⟨gw_of1 17 rfl rfl, gw_of6 149 rfl rfl, by decide +kernel, by decide⟩
def YX12_fails : YY := (yX12_fails, cX12_fails, 2, (some .boolean), 1)
theorem cbX12_fails : CB YX12_fails := ⟨gw_of1 17 rfl rfl, gw_of6 98 rfl rfl, by decide +kernel, by decide⟩
def YX12_puts : YY := (yX12_puts, cX12_puts, 2, none, 1)
theorem cbX12_puts : CB YX12_puts := ⟨gw_of1 17 rfl rfl, gw_of6 177 rfl rfl, by decide +kernel, by decide⟩
def YX12_fact : YY := (yX12_fact, cX12_fact, 1, (some .int), 0)
theorem cbX12_fact : CB YX12_fact := ⟨gw_of1 17 rfl rfl, gw_of6 169 rfl rfl, by decide +kernel, by decide⟩
def YX12_reads : YY := (yX12_reads, cX12_reads, 6, (some .boolean), 0)
theorem cbX12_reads : CB YX12_reads := ⟨gw_of1 17 rfl rfl, gw_of6 165 rfl rfl, by decide +kernel, by decide⟩
def YX12_opens : YY := (yX12_opens, cX12_opens, 2, none, 1)
theorem cbX12_opens : CB YX12_opens := ⟨gw_of1 17 rfl rfl, gw_of7 3 rfl rfl, by decide +kernel, by decide⟩
def YX12_sums : YY := (yX12_sums, cX12_sums, 2, none, 1)
theorem cbX12_sums : CB YX12_sums := ⟨gw_of1 17 rfl rfl, gw_of7 7 rfl rfl, by decide +kernel, by decide⟩
def YX12_tests : YY := (yX12_tests, cX12_tests, 3, none, 1)
theorem cbX12_tests : CB YX12_tests := ⟨gw_of1 17 rfl rfl, gw_of7 11 rfl rfl, by decide +kernel, by decide⟩
def YX12_worked : YY := (yX12_worked, cX12_worked, 6, (some .int), 1)
theorem cbX12_worked : CB YX12_worked := ⟨gw_of1 17 rfl rfl, gw_of6 239 rfl rfl, by decide +kernel, by decide⟩
def YX12_isKept : YY := (yX12_isKept, cX12_isKept, 1, (some .boolean), 0)
theorem cbX12_isKept : CB YX12_isKept := ⟨gw_of1 17 rfl rfl, gw_of6 106 rfl rfl, by decide +kernel, by decide⟩
def YX12_shotNamed : YY := (yX12_shotNamed, cX12_shotNamed, 3, (some .int), 1)
theorem cbX12_shotNamed : CB YX12_shotNamed := ⟨gw_of1 17 rfl rfl, gw_of6 126 rfl rfl, by decide +kernel, by decide⟩
def YX12_hallNamed : YY := (yX12_hallNamed, cX12_hallNamed, 3, (some .int), 1)
theorem cbX12_hallNamed : CB YX12_hallNamed := ⟨gw_of1 17 rfl rfl, gw_of6 130 rfl rfl, by decide +kernel, by decide⟩
def YX12_needsNumber : YY := (yX12_needsNumber, cX12_needsNumber, 3, (some .boolean), 2)
theorem cbX12_needsNumber : CB YX12_needsNumber := ⟨gw_of1 17 rfl rfl, gw_of6 138 rfl rfl, by decide +kernel, by decide⟩
def YX12_needsWord : YY := (yX12_needsWord, cX12_needsWord, 3, (some .boolean), 1)
theorem cbX12_needsWord : CB YX12_needsWord := ⟨gw_of1 17 rfl rfl, gw_of6 134 rfl rfl, by decide +kernel, by decide⟩
def YX12_closes : YY := (yX12_closes, cX12_closes, 1, (some .boolean), 0)
theorem cbX12_closes : CB YX12_closes := ⟨gw_of1 17 rfl rfl, gw_of6 145 rfl rfl, by decide +kernel, by decide⟩
def YX12_needsNew : YY := (yX12_needsNew, cX12_needsNew, 1, (some .boolean), 0)
theorem cbX12_needsNew : CB YX12_needsNew := ⟨gw_of1 17 rfl rfl, gw_of6 102 rfl rfl, by decide +kernel, by decide⟩
def YX12_needsShot : YY := (yX12_needsShot, cX12_needsShot, 2, (some .boolean), 1)
theorem cbX12_needsShot : CB YX12_needsShot := ⟨gw_of1 17 rfl rfl, gw_of6 157 rfl rfl, by decide +kernel, by decide⟩
def YX12_needsHall : YY := (yX12_needsHall, cX12_needsHall, 1, (some .boolean), 0)
theorem cbX12_needsHall : CB YX12_needsHall := ⟨gw_of1 17 rfl rfl, gw_of6 199 rfl rfl, by decide +kernel, by decide⟩
def YX12_readsShot : YY := (yX12_readsShot, cX12_readsShot, 2, (some .boolean), 0)
theorem cbX12_readsShot : CB YX12_readsShot := ⟨gw_of1 17 rfl rfl, gw_of6 94 rfl rfl, by decide +kernel, by decide⟩
def YX12_readsNeeds : YY := (yX12_readsNeeds, cX12_readsNeeds, 2, (some .boolean), 0)
theorem cbX12_readsNeeds : CB YX12_readsNeeds := ⟨gw_of1 17 rfl rfl, gw_of6 153 rfl rfl, by decide +kernel, by decide⟩
def YX12_readsHall : YY := (yX12_readsHall, cX12_readsHall, 4, (some .boolean), 0)
theorem cbX12_readsHall : CB YX12_readsHall := ⟨gw_of1 17 rfl rfl, gw_of6 161 rfl rfl, by decide +kernel, by decide⟩
def YX12_begins : YY := (yX12_begins, cX12_begins, 1, none, 0)
theorem cbX12_begins : CB YX12_begins := ⟨gw_of1 17 rfl rfl, gw_of6 75 rfl rfl, by decide +kernel, by decide⟩
def YX12_readsAll : YY := (yX12_readsAll, cX12_readsAll, 2, (some .boolean), 0)
theorem cbX12_readsAll : CB YX12_readsAll := ⟨gw_of1 17 rfl rfl, gw_of6 71 rfl rfl, by decide +kernel, by decide⟩
def YX12_shifts : YY := (yX12_shifts, cX12_shifts, 3, none, 2)
theorem cbX12_shifts : CB YX12_shifts := ⟨gw_of1 17 rfl rfl, gw_of6 184 rfl rfl, by decide +kernel, by decide⟩
def YX12_shiftsNames : YY := (yX12_shiftsNames, cX12_shiftsNames, 3, none, 2)
theorem cbX12_shiftsNames : CB YX12_shiftsNames := ⟨gw_of1 17 rfl rfl, gw_of6 187 rfl rfl, by decide +kernel, by decide⟩
def YX12_lays : YY := (yX12_lays, cX12_lays, 2, none, 0)
theorem cbX12_lays : CB YX12_lays := ⟨gw_of1 17 rfl rfl, gw_of6 181 rfl rfl, by decide +kernel, by decide⟩
def YX12_copies : YY := (yX12_copies, cX12_copies, 5, none, 4)
theorem cbX12_copies : CB YX12_copies := ⟨gw_of1 17 rfl rfl, gw_of7 22 rfl rfl, by decide +kernel, by decide⟩
def YX12_readsLine : YY := (yX12_readsLine, cX12_readsLine, 3, (some .boolean), 0)
theorem cbX12_readsLine : CB YX12_readsLine := ⟨gw_of1 17 rfl rfl, gw_of6 195 rfl rfl, by decide +kernel, by decide⟩
def YX12_laysLines : YY := (yX12_laysLines, cX12_laysLines, 4, none, 2)
theorem cbX12_laysLines : CB YX12_laysLines := ⟨gw_of1 17 rfl rfl, gw_of6 203 rfl rfl, by decide +kernel, by decide⟩
def YX12_laysSeen : YY := (yX12_laysSeen, cX12_laysSeen, 4, none, 2)
theorem cbX12_laysSeen : CB YX12_laysSeen := ⟨gw_of1 17 rfl rfl, gw_of7 225 rfl rfl, by decide +kernel, by decide⟩
def YX12_fresh : YY := (yX12_fresh, cX12_fresh, 2, none, 0)
theorem cbX12_fresh : CB YX12_fresh := ⟨gw_of1 17 rfl rfl, gw_of5 115 rfl rfl, by decide +kernel, by decide⟩
def YX12_county : YY := (yX12_county, cX12_county, 2, (some .int), 0)
theorem cbX12_county : CB YX12_county := ⟨gw_of1 17 rfl rfl, gw_of6 67 rfl rfl, by decide +kernel, by decide⟩
def YX12_round : YY := (yX12_round, cX12_round, 1, (some .int), 0)
theorem cbX12_round : CB YX12_round := ⟨gw_of1 17 rfl rfl, gw_of6 191 rfl rfl, by decide +kernel, by decide⟩
def YX12_allShots : YY := (yX12_allShots, cX12_allShots, 1, (some .int), 0)
theorem cbX12_allShots : CB YX12_allShots := ⟨gw_of1 17 rfl rfl, gw_of5 119 rfl rfl, by decide +kernel, by decide⟩
def YX12_isShot : YY := (yX12_isShot, cX12_isShot, 2, (some .boolean), 1)
theorem cbX12_isShot : CB YX12_isShot := ⟨gw_of1 17 rfl rfl, gw_of6 211 rfl rfl, by decide +kernel, by decide⟩
def YX12_isHall : YY := (yX12_isHall, cX12_isHall, 2, (some .boolean), 1)
theorem cbX12_isHall : CB YX12_isHall := ⟨gw_of1 17 rfl rfl, gw_of6 219 rfl rfl, by decide +kernel, by decide⟩
def YX12_minutesOf : YY := (yX12_minutesOf, cX12_minutesOf, 4, (some .int), 1)
theorem cbX12_minutesOf : CB YX12_minutesOf := ⟨gw_of1 17 rfl rfl, gw_of7 34 rfl rfl, by decide +kernel, by decide⟩
def YX12_hates : YY := (yX12_hates, cX12_hates, 5, (some .boolean), 4)
theorem cbX12_hates : CB YX12_hates := ⟨gw_of1 17 rfl rfl, gw_of6 235 rfl rfl, by decide +kernel, by decide⟩
def YX12_takesOut : YY := (yX12_takesOut, cX12_takesOut, 9, (some .int), 2)
theorem cbX12_takesOut : CB YX12_takesOut := ⟨gw_of1 17 rfl rfl, gw_of6 231 rfl rfl, by decide +kernel, by decide⟩
def YX12_makesSense : YY := (yX12_makesSense, cX12_makesSense, 3, (some .boolean), 1)
theorem cbX12_makesSense : CB YX12_makesSense := ⟨gw_of1 17 rfl rfl, gw_of7 77 rfl rfl, by decide +kernel, by decide⟩
def YX12_drawerOf : YY := (yX12_drawerOf, cX12_drawerOf, 4, (some .int), 1)
theorem cbX12_drawerOf : CB YX12_drawerOf := ⟨gw_of1 17 rfl rfl, gw_of6 223 rfl rfl, by decide +kernel, by decide⟩
def YX12_inDrawers : YY := (yX12_inDrawers, cX12_inDrawers, 3, (some .int), 0)
theorem cbX12_inDrawers : CB YX12_inDrawers := ⟨gw_of1 17 rfl rfl, gw_of7 154 rfl rfl, by decide +kernel, by decide⟩
def YX12_cuts : YY := (yX12_cuts, cX12_cuts, 4, none, 1)
theorem cbX12_cuts : CB YX12_cuts := ⟨gw_of1 17 rfl rfl, gw_of7 30 rfl rfl, by decide +kernel, by decide⟩
def YX12_shows : YY := (yX12_shows, cX12_shows, 1, none, 0)
theorem cbX12_shows : CB YX12_shows := ⟨gw_of1 17 rfl rfl, gw_of7 26 rfl rfl, by decide +kernel, by decide⟩
def YX12_goesBack : YY := (yX12_goesBack, cX12_goesBack, 2, none, 1)
theorem cbX12_goesBack : CB YX12_goesBack := ⟨gw_of1 17 rfl rfl, gw_of7 42 rfl rfl, by decide +kernel, by decide⟩
def YX12_turns : YY := (yX12_turns, cX12_turns, 4, none, 0)
theorem cbX12_turns : CB YX12_turns := ⟨gw_of1 17 rfl rfl, gw_of7 57 rfl rfl, by decide +kernel, by decide⟩
def YX12_placeOf : YY := (yX12_placeOf, cX12_placeOf, 3, (some .int), 1)
theorem cbX12_placeOf : CB YX12_placeOf := ⟨gw_of1 17 rfl rfl, gw_of6 227 rfl rfl, by decide +kernel, by decide⟩
def YX12_shot : YY := (yX12_shot, cX12_shot, 3, (some .int), 2)
theorem cbX12_shot : CB YX12_shot := ⟨gw_of1 17 rfl rfl, gw_of6 207 rfl rfl, by decide +kernel, by decide⟩
def YX12_hall : YY := (yX12_hall, cX12_hall, 3, (some .int), 2)
theorem cbX12_hall : CB YX12_hall := ⟨gw_of1 17 rfl rfl, gw_of6 215 rfl rfl, by decide +kernel, by decide⟩
def YX12_keeps : YY := (yX12_keeps, cX12_keeps, 2, none, 0)
theorem cbX12_keeps : CB YX12_keeps := ⟨gw_of1 17 rfl rfl, gw_of7 19 rfl rfl, by decide +kernel, by decide⟩
def YX12_show : YY := (yX12_show, cX12_show, 1, (some .int), 0)
theorem cbX12_show : CB YX12_show := ⟨gw_of1 17 rfl rfl, gw_of7 15 rfl rfl, by decide +kernel, by decide⟩
def YX12_give : YY := (yX12_give, cX12_give, 3, (some .int), 2)
theorem cbX12_give : CB YX12_give := ⟨gw_of1 17 rfl rfl, gw_of7 38 rfl rfl, by decide +kernel, by decide⟩
def YX12_trade : YY := (yX12_trade, cX12_trade, 4, (some .boolean), 3)
theorem cbX12_trade : CB YX12_trade := ⟨gw_of1 17 rfl rfl, gw_of7 49 rfl rfl, by decide +kernel, by decide⟩
def YX12_nextHall : YY := (yX12_nextHall, cX12_nextHall, 1, (some .int), 0)
theorem cbX12_nextHall : CB YX12_nextHall := ⟨gw_of1 17 rfl rfl, gw_of7 61 rfl rfl, by decide +kernel, by decide⟩
def YX12_turn : YY := (yX12_turn, cX12_turn, 1, (some .int), 0)
theorem cbX12_turn : CB YX12_turn := ⟨gw_of1 17 rfl rfl, gw_of7 53 rfl rfl, by decide +kernel, by decide⟩
def YX12_undo : YY := (yX12_undo, cX12_undo, 1, (some .boolean), 0)
theorem cbX12_undo : CB YX12_undo := ⟨gw_of1 17 rfl rfl, gw_of7 65 rfl rfl, by decide +kernel, by decide⟩
def YX12_goes : YY := (yX12_goes, cX12_goes, 4, (some .boolean), 1)
theorem cbX12_goes : CB YX12_goes := ⟨gw_of1 17 rfl rfl, gw_of7 73 rfl rfl, by decide +kernel, by decide⟩
def YX12_judged : YY := (yX12_judged, cX12_judged, 7, (some .int), 1)
theorem cbX12_judged : CB YX12_judged := ⟨gw_of1 17 rfl rfl, gw_of7 69 rfl rfl, by decide +kernel, by decide⟩
def YX12_goesOn : YY := (yX12_goesOn, cX12_goesOn, 6, none, 1)
theorem cbX12_goesOn : CB YX12_goesOn := ⟨gw_of1 17 rfl rfl, gw_of7 85 rfl rfl, by decide +kernel, by decide⟩
def YX12_shown : YY := (yX12_shown, cX12_shown, 5, (some .int), 2)
theorem cbX12_shown : CB YX12_shown := ⟨gw_of1 17 rfl rfl, gw_of7 81 rfl rfl, by decide +kernel, by decide⟩
def YX12_minutes : YY := (yX12_minutes, cX12_minutes, 2, (some .int), 1)
theorem cbX12_minutes : CB YX12_minutes := ⟨gw_of1 17 rfl rfl, gw_of7 89 rfl rfl, by decide +kernel, by decide⟩
def YX12_silly : YY := (yX12_silly, cX12_silly, 1, (some .int), 0)
theorem cbX12_silly : CB YX12_silly := ⟨gw_of1 17 rfl rfl, gw_of7 93 rfl rfl, by decide +kernel, by decide⟩
def YX12_gone : YY := (yX12_gone, cX12_gone, 2, (some .int), 1)
theorem cbX12_gone : CB YX12_gone := ⟨gw_of1 17 rfl rfl, gw_of7 97 rfl rfl, by decide +kernel, by decide⟩
def YX12_saves : YY := (yX12_saves, cX12_saves, 3, (some .int), 1)
theorem cbX12_saves : CB YX12_saves := ⟨gw_of1 17 rfl rfl, gw_of7 101 rfl rfl, by decide +kernel, by decide⟩
def YX12_kin : YY := (yX12_kin, cX12_kin, 5, (some .int), 1)
theorem cbX12_kin : CB YX12_kin := ⟨gw_of1 17 rfl rfl, gw_of7 105 rfl rfl, by decide +kernel, by decide⟩
def YX12_ofSort : YY := (yX12_ofSort, cX12_ofSort, 5, (some .int), 2)
theorem cbX12_ofSort : CB YX12_ofSort := ⟨gw_of1 17 rfl rfl, gw_of7 113 rfl rfl, by decide +kernel, by decide⟩
def YX12_hoard : YY := (yX12_hoard, cX12_hoard, 6, (some .int), 1)
theorem cbX12_hoard : CB YX12_hoard := ⟨gw_of1 17 rfl rfl, gw_of7 109 rfl rfl, by decide +kernel, by decide⟩
def YX12_unlikeFrom : YY := (yX12_unlikeFrom, cX12_unlikeFrom, 5, (some .int), 1)
theorem cbX12_unlikeFrom : CB YX12_unlikeFrom := ⟨gw_of1 17 rfl rfl, gw_of7 121 rfl rfl, by decide +kernel, by decide⟩
def YX12_longest : YY := (yX12_longest, cX12_longest, 3, (some .int), 0)
theorem cbX12_longest : CB YX12_longest := ⟨gw_of1 17 rfl rfl, gw_of7 117 rfl rfl, by decide +kernel, by decide⟩
def YX12_lasts : YY := (yX12_lasts, cX12_lasts, 3, (some .int), 0)
theorem cbX12_lasts : CB YX12_lasts := ⟨gw_of1 17 rfl rfl, gw_of7 126 rfl rfl, by decide +kernel, by decide⟩
def YX12_sense : YY := (yX12_sense, cX12_sense, 1, (some .boolean), 0)
theorem cbX12_sense : CB YX12_sense := ⟨gw_of1 17 rfl rfl, gw_of7 130 rfl rfl, by decide +kernel, by decide⟩
def YX12_orders : YY := (yX12_orders, cX12_orders, 7, none, 4)
theorem cbX12_orders : CB YX12_orders := ⟨gw_of1 17 rfl rfl, gw_of7 138 rfl rfl, by decide +kernel, by decide⟩
def YX12_order : YY := (yX12_order, cX12_order, 5, (some .int), 1)
theorem cbX12_order : CB YX12_order := ⟨gw_of1 17 rfl rfl, gw_of7 134 rfl rfl, by decide +kernel, by decide⟩
def YX12_ride : YY := (yX12_ride, cX12_ride, 5, (some .int), 0)
theorem cbX12_ride : CB YX12_ride := ⟨gw_of1 17 rfl rfl, gw_of7 142 rfl rfl, by decide +kernel, by decide⟩
def YX12_otherFilm : YY := (yX12_otherFilm, cX12_otherFilm, 6, (some .int), 0)
theorem cbX12_otherFilm : CB YX12_otherFilm := ⟨gw_of1 17 rfl rfl, gw_of7 150 rfl rfl, by decide +kernel, by decide⟩
def YX12_other : YY := (yX12_other, cX12_other, 3, (some .int), 1)
theorem cbX12_other : CB YX12_other := ⟨gw_of1 17 rfl rfl, gw_of7 146 rfl rfl, by decide +kernel, by decide⟩
def YX12_mends : YY := (yX12_mends, cX12_mends, 4, (some .int), 0)
theorem cbX12_mends : CB YX12_mends := ⟨gw_of1 17 rfl rfl, gw_of7 158 rfl rfl, by decide +kernel, by decide⟩
def YX12_where : YY := (yX12_where, cX12_where, 2, (some .int), 1)
theorem cbX12_where : CB YX12_where := ⟨gw_of1 17 rfl rfl, gw_of7 162 rfl rfl, by decide +kernel, by decide⟩
def YX12_taste : YY := (yX12_taste, cX12_taste, 5, (some .int), 2)
theorem cbX12_taste : CB YX12_taste := ⟨gw_of1 17 rfl rfl, gw_of7 166 rfl rfl, by decide +kernel, by decide⟩
def YX12_mild : YY := (yX12_mild, cX12_mild, 5, (some .int), 0)
theorem cbX12_mild : CB YX12_mild := ⟨gw_of1 17 rfl rfl, gw_of7 170 rfl rfl, by decide +kernel, by decide⟩
def YX12_see : YY := (yX12_see, cX12_see, 3, (some .boolean), 2)
theorem cbX12_see : CB YX12_see := ⟨gw_of1 17 rfl rfl, gw_of7 174 rfl rfl, by decide +kernel, by decide⟩
def YX12_hallsAsSeen : YY := (yX12_hallsAsSeen, cX12_hallsAsSeen, 6, (some .int), 0)
theorem cbX12_hallsAsSeen : CB YX12_hallsAsSeen := ⟨gw_of1 17 rfl rfl, gw_of7 182 rfl rfl, by decide +kernel, by decide⟩
def YX12_halls : YY := (yX12_halls, cX12_halls, 1, (some .int), 0)
theorem cbX12_halls : CB YX12_halls := ⟨gw_of1 17 rfl rfl, gw_of7 178 rfl rfl, by decide +kernel, by decide⟩
def YX12_ask : YY := (yX12_ask, cX12_ask, 8, (some .int), 0)
theorem cbX12_ask : CB YX12_ask := ⟨gw_of1 17 rfl rfl, gw_of7 186 rfl rfl, by decide +kernel, by decide⟩
def YX12_getsBy : YY := (yX12_getsBy, cX12_getsBy, 5, (some .int), 5)
theorem cbX12_getsBy : CB YX12_getsBy := ⟨gw_of1 17 rfl rfl, gw_of7 193 rfl rfl, by decide +kernel, by decide⟩
def YX12_rests : YY := (yX12_rests, cX12_rests, 9, (some .int), 4)
theorem cbX12_rests : CB YX12_rests := ⟨gw_of1 17 rfl rfl, gw_of7 190 rfl rfl, by decide +kernel, by decide⟩
def YX12_share : YY := (yX12_share, cX12_share, 3, (some .int), 1)
theorem cbX12_share : CB YX12_share := ⟨gw_of1 17 rfl rfl, gw_of7 197 rfl rfl, by decide +kernel, by decide⟩
def YX12_draws : YY := (yX12_draws, cX12_draws, 2, (some .int), 1)
theorem cbX12_draws : CB YX12_draws := ⟨gw_of1 17 rfl rfl, gw_of7 205 rfl rfl, by decide +kernel, by decide⟩
def YX12_nth : YY := (yX12_nth, cX12_nth, 5, (some .int), 2)
theorem cbX12_nth : CB YX12_nth := ⟨gw_of1 17 rfl rfl, gw_of7 217 rfl rfl, by decide +kernel, by decide⟩
def YX12_givesSome : YY := (yX12_givesSome, cX12_givesSome, 2, none, 0)
theorem cbX12_givesSome : CB YX12_givesSome := ⟨gw_of1 17 rfl rfl, gw_of7 213 rfl rfl, by decide +kernel, by decide⟩
def YX12_tours : YY := (yX12_tours, cX12_tours, 7, (some .int), 3)
theorem cbX12_tours : CB YX12_tours := ⟨gw_of1 17 rfl rfl, gw_of7 201 rfl rfl, by decide +kernel, by decide⟩
def YX12_mark : YY := (yX12_mark, cX12_mark, 5, (some .boolean), 2)
theorem cbX12_mark : CB YX12_mark := ⟨gw_of1 17 rfl rfl, gw_of7 221 rfl rfl, by decide +kernel, by decide⟩
def YX12_count : YY := (yX12_count, cX12_count, 2, (some .int), 1)
theorem cbX12_count : CB YX12_count := ⟨gw_of1 17 rfl rfl, gw_of7 229 rfl rfl, by decide +kernel, by decide⟩
def YJ6_bitCount_0f7a4 : YY := (yJ6_bitCount_0f7a4, cJ6_bitCount_0f7a4, 1, (some .int), 1)
theorem cbJ6_bitCount_0f7a4 : CB YJ6_bitCount_0f7a4 := ⟨gw_of1 19 rfl rfl, gw_of3 224 rfl rfl, by decide +kernel, by decide⟩
def YJ9_max_7cf53 : YY := (yJ9_max_7cf53, cJ9_max_7cf53, 2, (some .int), 2)
theorem cbJ9_max_7cf53 : CB YJ9_max_7cf53 := ⟨gw_of1 18 rfl rfl, gw_of4 104 rfl rfl, by decide +kernel, by decide⟩
def YJ9_min_7cf53 : YY := (yJ9_min_7cf53, cJ9_min_7cf53, 2, (some .int), 2)
theorem cbJ9_min_7cf53 : CB YJ9_min_7cf53 := ⟨gw_of1 18 rfl rfl, gw_of3 190 rfl rfl, by decide +kernel, by decide⟩
def YJ0_length_8abf5 : YY := (yJ0_length_8abf5, cJ0_length_8abf5, 1, (some .int), 0)
theorem cbJ0_length_8abf5 : CB YJ0_length_8abf5 := ⟨gw_of1 5 rfl rfl, gw_of1 114 rfl rfl, by decide +kernel, by decide⟩
def YJ0_charAt_5068e : YY := (yJ0_charAt_5068e, cJ0_charAt_5068e, 2, (some .char), 1)
theorem cbJ0_charAt_5068e : CB YJ0_charAt_5068e := ⟨gw_of1 5 rfl rfl, gw_of1 124 rfl rfl, by decide +kernel, by decide⟩
def YJ0_coder_7d493 : YY := (yJ0_coder_7d493, cJ0_coder_7d493, 1, (some .byte), 0)
theorem cbJ0_coder_7d493 : CB YJ0_coder_7d493 := ⟨gw_of1 5 rfl rfl, gw_of1 118 rfl rfl, by decide +kernel, by decide⟩
def YJ0_isLatin1_aae02 : YY := (yJ0_isLatin1_aae02, cJ0_isLatin1_aae02, 1, (some .boolean), 0)
theorem cbJ0_isLatin1_aae02 : CB YJ0_isLatin1_aae02 := ⟨gw_of1 5 rfl rfl, gw_of1 128 rfl rfl, by decide +kernel, by decide⟩
def YJ0_checkIndex_df160 : YY := (yJ0_checkIndex_df160, cJ0_checkIndex_df160, 2, none, 2)
theorem cbJ0_checkIndex_df160 : CB YJ0_checkIndex_df160 := ⟨gw_of1 5 rfl rfl, gw_of1 134 rfl rfl, by decide +kernel, by decide⟩
def YJ1_charAt_3b067 : YY := (yJ1_charAt_3b067, cJ1_charAt_3b067, 2, (some .char), 2)
theorem cbJ1_charAt_3b067 : CB YJ1_charAt_3b067 := ⟨gw_of1 6 rfl rfl, gw_of1 131 rfl rfl, by decide +kernel, by decide⟩
def YJ2_getChar_3b067 : YY := (yJ2_getChar_3b067, cJ2_getChar_3b067, 2, (some .char), 2)
theorem cbJ2_getChar_3b067 : CB YJ2_getChar_3b067 := ⟨gw_of1 8 rfl rfl, gw_of1 152 rfl rfl, by decide +kernel, by decide⟩
def YJ2_length_9d52b : YY := (yJ2_length_9d52b, cJ2_length_9d52b, 1, (some .int), 1)
theorem cbJ2_length_9d52b : CB YJ2_length_9d52b := ⟨gw_of1 8 rfl rfl, gw_of1 148 rfl rfl, by decide +kernel, by decide⟩
def YJ2_charAt_3b067 : YY := (yJ2_charAt_3b067, cJ2_charAt_3b067, 2, (some .char), 2)
theorem cbJ2_charAt_3b067 : CB YJ2_charAt_3b067 := ⟨gw_of1 8 rfl rfl, gw_of1 142 rfl rfl, by decide +kernel, by decide⟩
def YJ2_checkIndex_2214a : YY := (yJ2_checkIndex_2214a, cJ2_checkIndex_2214a, 2, none, 2)
theorem cbJ2_checkIndex_2214a : CB YJ2_checkIndex_2214a := ⟨gw_of1 8 rfl rfl, gw_of1 145 rfl rfl, by decide +kernel, by decide⟩
def YJ3_checkIndex_8e157 : YY := (yJ3_checkIndex_8e157, cJ3_checkIndex_8e157, 3, (some .int), 3)
theorem cbJ3_checkIndex_8e157 : CB YJ3_checkIndex_8e157 := ⟨gw_of1 7 rfl rfl, gw_of1 139 rfl rfl, by decide +kernel, by decide⟩
theorem cnL_8 : CN RL 8 11 := ⟨RX11, TX11, rfl, clX11, tyX11_ok, by decide +kernel, gw_of1 24 rfl rfl, gw_of1 25 rfl rfl, gw_of1 1 rfl rfl⟩
theorem klL_8 : Cond.classLink RL 8 RX11 ∈ gw := gw_of1 24 rfl rfl
theorem ciiL_19 : CI RL 19 YX11_init := ⟨cbX11_init, gw_of1 26 rfl rfl, gw_of1 27 rfl rfl, rfl, rfl⟩
theorem oiX11_1 : Cond.methodLink RX11 1 objectInit ∈ gw := gw_of1 29 rfl rfl
theorem cnX11_7 : CN RX11 7 0 := ⟨RX0, TX0, rfl, clX0, tyX0_ok, by decide +kernel, gw_of1 32 rfl rfl, gw_of1 33 rfl rfl, gw_of1 2 rfl rfl⟩
theorem klX11_7 : Cond.classLink RX11 7 RX0 ∈ gw := gw_of1 32 rfl rfl
theorem cniX11_9 : CIN RX11 9 YX0_init := ⟨cbX0_init, lw_of1 34 rfl, gw_of1 35 rfl rfl, rfl, rfl⟩
theorem oiX0_3 : Cond.methodLink RX0 3 objectInit ∈ gw := gw_of1 37 rfl rfl
theorem cnX0_31 : CN RX0 31 2 := ⟨RX2, TX2, rfl, clX2, tyX2_ok, by decide +kernel, gw_of1 38 rfl rfl, gw_of1 39 rfl rfl, gw_of1 3 rfl rfl⟩
theorem klX0_31 : Cond.classLink RX0 31 RX2 ∈ gw := gw_of1 38 rfl rfl
theorem cniX0_33 : CIN RX0 33 YX2_init := ⟨cbX2_init, lw_of1 40 rfl, gw_of1 41 rfl rfl, rfl, rfl⟩
theorem oiX2_3 : Cond.methodLink RX2 3 objectInit ∈ gw := gw_of1 43 rfl rfl
theorem fdX2_9 : FD RX2 9 2 0 (.array .int) true := ⟨RX2, TX2, rfl, clX2, tyX2_ok, nmX2, by decide, rfl, rfl, rfl, gw_of1 44 rfl rfl⟩
theorem fdX2_21 : FD RX2 21 2 1 .int false := ⟨RX2, TX2, rfl, clX2, tyX2_ok, nmX2, by decide, rfl, rfl, rfl, gw_of1 45 rfl rfl⟩
theorem fdX0_48 : FD RX0 48 2 1 .int false := ⟨RX2, TX2, rfl, clX2, tyX2_ok, nmX2, by decide, rfl, rfl, rfl, gw_of1 46 rfl rfl⟩
theorem fdX2_15 : FD RX2 15 2 2 (.array .int) true := ⟨RX2, TX2, rfl, clX2, tyX2_ok, nmX2, by decide, rfl, rfl, rfl, gw_of1 47 rfl rfl⟩
theorem fdX0_55 : FD RX0 55 2 2 (.array .int) true := ⟨RX2, TX2, rfl, clX2, tyX2_ok, nmX2, by decide, rfl, rfl, rfl, gw_of1 48 rfl rfl⟩
theorem fdX2_18 : FD RX2 18 2 3 (.array .int) true := ⟨RX2, TX2, rfl, clX2, tyX2_ok, nmX2, by decide, rfl, rfl, rfl, gw_of1 49 rfl rfl⟩
theorem fdX0_41 : FD RX0 41 0 0 .int false := ⟨RX0, TX0, rfl, clX0, tyX0_ok, nmX0, by decide, rfl, rfl, rfl, gw_of1 61 rfl rfl⟩
theorem fdX7_70 : FD RX7 70 0 0 .int false := ⟨RX0, TX0, rfl, clX0, tyX0_ok, nmX0, by decide, rfl, rfl, rfl, gw_of1 62 rfl rfl⟩
theorem fdX11_246 : FD RX11 246 0 0 .int false := ⟨RX0, TX0, rfl, clX0, tyX0_ok, nmX0, by decide, rfl, rfl, rfl, gw_of1 63 rfl rfl⟩
theorem fdX0_9 : FD RX0 9 0 1 (.array .long) true := ⟨RX0, TX0, rfl, clX0, tyX0_ok, nmX0, by decide, rfl, rfl, rfl, gw_of1 64 rfl rfl⟩
theorem fdX0_15 : FD RX0 15 0 2 (.array .int) true := ⟨RX0, TX0, rfl, clX0, tyX0_ok, nmX0, by decide, rfl, rfl, rfl, gw_of1 65 rfl rfl⟩
theorem fdX11_120 : FD RX11 120 0 2 (.array .int) true := ⟨RX0, TX0, rfl, clX0, tyX0_ok, nmX0, by decide, rfl, rfl, rfl, gw_of1 66 rfl rfl⟩
theorem fdX0_19 : FD RX0 19 0 3 (.array .int) true := ⟨RX0, TX0, rfl, clX0, tyX0_ok, nmX0, by decide, rfl, rfl, rfl, gw_of1 67 rfl rfl⟩
theorem fdX11_123 : FD RX11 123 0 3 (.array .int) true := ⟨RX0, TX0, rfl, clX0, tyX0_ok, nmX0, by decide, rfl, rfl, rfl, gw_of1 68 rfl rfl⟩
theorem fdX0_22 : FD RX0 22 0 4 (.array .int) true := ⟨RX0, TX0, rfl, clX0, tyX0_ok, nmX0, by decide, rfl, rfl, rfl, gw_of1 69 rfl rfl⟩
theorem fdX11_126 : FD RX11 126 0 4 (.array .int) true := ⟨RX0, TX0, rfl, clX0, tyX0_ok, nmX0, by decide, rfl, rfl, rfl, gw_of1 70 rfl rfl⟩
theorem fdX0_45 : FD RX0 45 0 5 .int false := ⟨RX0, TX0, rfl, clX0, tyX0_ok, nmX0, by decide, rfl, rfl, rfl, gw_of1 71 rfl rfl⟩
theorem fdX6_40 : FD RX6 40 0 5 .int false := ⟨RX0, TX0, rfl, clX0, tyX0_ok, nmX0, by decide, rfl, rfl, rfl, gw_of1 72 rfl rfl⟩
theorem fdX10_29 : FD RX10 29 0 5 .int false := ⟨RX0, TX0, rfl, clX0, tyX0_ok, nmX0, by decide, rfl, rfl, rfl, gw_of1 73 rfl rfl⟩
theorem fdX5_28 : FD RX5 28 0 5 .int false := ⟨RX0, TX0, rfl, clX0, tyX0_ok, nmX0, by decide, rfl, rfl, rfl, gw_of1 74 rfl rfl⟩
theorem fdX11_149 : FD RX11 149 0 5 .int false := ⟨RX0, TX0, rfl, clX0, tyX0_ok, nmX0, by decide, rfl, rfl, rfl, gw_of1 75 rfl rfl⟩
theorem fdX7_117 : FD RX7 117 0 5 .int false := ⟨RX0, TX0, rfl, clX0, tyX0_ok, nmX0, by decide, rfl, rfl, rfl, gw_of1 76 rfl rfl⟩
theorem fdX0_25 : FD RX0 25 0 6 (.array .long) true := ⟨RX0, TX0, rfl, clX0, tyX0_ok, nmX0, by decide, rfl, rfl, rfl, gw_of1 77 rfl rfl⟩
theorem fdX0_28 : FD RX0 28 0 7 (.array .int) true := ⟨RX0, TX0, rfl, clX0, tyX0_ok, nmX0, by decide, rfl, rfl, rfl, gw_of1 78 rfl rfl⟩
theorem fdX11_135 : FD RX11 135 0 7 (.array .int) true := ⟨RX0, TX0, rfl, clX0, tyX0_ok, nmX0, by decide, rfl, rfl, rfl, gw_of1 79 rfl rfl⟩
theorem fdX0_34 : FD RX0 34 0 8 (.object "CountyPrint$Laws") true := ⟨RX0, TX0, rfl, clX0, tyX0_ok, nmX0, by decide, rfl, rfl, rfl, gw_of1 80 rfl rfl⟩
theorem fdX7_151 : FD RX7 151 0 8 (.object "CountyPrint$Laws") true := ⟨RX0, TX0, rfl, clX0, tyX0_ok, nmX0, by decide, rfl, rfl, rfl, gw_of1 81 rfl rfl⟩
theorem fdX0_38 : FD RX0 38 0 9 (.array .int) true := ⟨RX0, TX0, rfl, clX0, tyX0_ok, nmX0, by decide, rfl, rfl, rfl, gw_of1 82 rfl rfl⟩
theorem cnX11_19 : CN RX11 19 9 := ⟨RX9, TX9, rfl, clX9, tyX9_ok, by decide +kernel, gw_of1 104 rfl rfl, gw_of1 105 rfl rfl, gw_of1 4 rfl rfl⟩
theorem klX11_19 : Cond.classLink RX11 19 RX9 ∈ gw := gw_of1 104 rfl rfl
theorem ciiX11_21 : CI RX11 21 YX9_init := ⟨cbX9_init, gw_of1 106 rfl rfl, gw_of1 107 rfl rfl, rfl, rfl⟩
theorem oiX9_3 : Cond.methodLink RX9 3 objectInit ∈ gw := gw_of1 109 rfl rfl
theorem cvX9_21 : CV RX9 21 YJ0_length_8abf5 := ⟨cbJ0_length_8abf5, gw_of1 111 rfl rfl, gw_of1 112 rfl rfl, gw_of1 113 rfl rfl⟩
theorem cvX9_27 : CV RX9 27 YJ0_charAt_5068e := ⟨cbJ0_charAt_5068e, gw_of1 121 rfl rfl, gw_of1 122 rfl rfl, gw_of1 123 rfl rfl⟩
theorem kcX9_31 : Cond.constantLong RX9 31 (32) ∈ gw := gw_of1 159 rfl rfl
theorem fdX9_11 : FD RX9 11 9 0 (.array .long) true := ⟨RX9, TX9, rfl, clX9, tyX9_ok, nmX9, by decide, rfl, rfl, rfl, gw_of1 160 rfl rfl⟩
theorem fdX9_15 : FD RX9 15 9 1 (.array .char) true := ⟨RX9, TX9, rfl, clX9, tyX9_ok, nmX9, by decide, rfl, rfl, rfl, gw_of1 161 rfl rfl⟩
theorem fdX11_98 : FD RX11 98 9 2 .int false := ⟨RX9, TX9, rfl, clX9, tyX9_ok, nmX9, by decide, rfl, rfl, rfl, gw_of1 162 rfl rfl⟩
theorem fdX9_33 : FD RX9 33 9 2 .int false := ⟨RX9, TX9, rfl, clX9, tyX9_ok, nmX9, by decide, rfl, rfl, rfl, gw_of1 163 rfl rfl⟩
theorem fdX7_51 : FD RX7 51 9 2 .int false := ⟨RX9, TX9, rfl, clX9, tyX9_ok, nmX9, by decide, rfl, rfl, rfl, gw_of1 164 rfl rfl⟩
theorem fdX9_43 : FD RX9 43 9 3 .int false := ⟨RX9, TX9, rfl, clX9, tyX9_ok, nmX9, by decide, rfl, rfl, rfl, gw_of1 165 rfl rfl⟩
theorem fdX7_67 : FD RX7 67 9 3 .int false := ⟨RX9, TX9, rfl, clX9, tyX9_ok, nmX9, by decide, rfl, rfl, rfl, gw_of1 166 rfl rfl⟩
theorem fdX9_37 : FD RX9 37 9 4 .int false := ⟨RX9, TX9, rfl, clX9, tyX9_ok, nmX9, by decide, rfl, rfl, rfl, gw_of1 167 rfl rfl⟩
theorem fdX7_28 : FD RX7 28 9 5 .int false := ⟨RX9, TX9, rfl, clX9, tyX9_ok, nmX9, by decide, rfl, rfl, rfl, gw_of1 168 rfl rfl⟩
theorem fdX9_53 : FD RX9 53 9 5 .int false := ⟨RX9, TX9, rfl, clX9, tyX9_ok, nmX9, by decide, rfl, rfl, rfl, gw_of1 169 rfl rfl⟩
theorem fdX9_72 : FD RX9 72 9 6 .long false := ⟨RX9, TX9, rfl, clX9, tyX9_ok, nmX9, by decide, rfl, rfl, rfl, gw_of1 170 rfl rfl⟩
theorem fdX7_76 : FD RX7 76 9 6 .long false := ⟨RX9, TX9, rfl, clX9, tyX9_ok, nmX9, by decide, rfl, rfl, rfl, gw_of1 171 rfl rfl⟩
theorem fdX7_34 : FD RX7 34 9 7 .int false := ⟨RX9, TX9, rfl, clX9, tyX9_ok, nmX9, by decide, rfl, rfl, rfl, gw_of1 172 rfl rfl⟩
theorem fdX9_50 : FD RX9 50 9 7 .int false := ⟨RX9, TX9, rfl, clX9, tyX9_ok, nmX9, by decide, rfl, rfl, rfl, gw_of1 173 rfl rfl⟩
theorem fdX9_76 : FD RX9 76 9 8 .int false := ⟨RX9, TX9, rfl, clX9, tyX9_ok, nmX9, by decide, rfl, rfl, rfl, gw_of1 174 rfl rfl⟩
theorem fdX7_86 : FD RX7 86 9 8 .int false := ⟨RX9, TX9, rfl, clX9, tyX9_ok, nmX9, by decide, rfl, rfl, rfl, gw_of1 175 rfl rfl⟩
theorem fdX9_46 : FD RX9 46 9 9 .char false := ⟨RX9, TX9, rfl, clX9, tyX9_ok, nmX9, by decide, rfl, rfl, rfl, gw_of1 176 rfl rfl⟩
theorem cnX11_26 : CN RX11 26 7 := ⟨RX7, TX7, rfl, clX7, tyX7_ok, by decide +kernel, gw_of1 200 rfl rfl, gw_of1 201 rfl rfl, gw_of1 9 rfl rfl⟩
theorem klX11_26 : Cond.classLink RX11 26 RX7 ∈ gw := gw_of1 200 rfl rfl
theorem ciiX11_28 : CI RX11 28 YX7_init := ⟨cbX7_init, gw_of1 202 rfl rfl, gw_of1 203 rfl rfl, rfl, rfl⟩
theorem oiX7_3 : Cond.methodLink RX7 3 objectInit ∈ gw := gw_of1 205 rfl rfl
theorem fdX7_9 : FD RX7 9 7 0 (.object "CountyPrint$Tape") true := ⟨RX7, TX7, rfl, clX7, tyX7_ok, nmX7, by decide, rfl, rfl, rfl, gw_of1 206 rfl rfl⟩
theorem fdX7_15 : FD RX7 15 7 1 (.object "CountyPrint$County") false := ⟨RX7, TX7, rfl, clX7, tyX7_ok, nmX7, by decide, rfl, rfl, rfl, gw_of1 207 rfl rfl⟩
theorem fdX7_54 : FD RX7 54 7 2 .int false := ⟨RX7, TX7, rfl, clX7, tyX7_ok, nmX7, by decide, rfl, rfl, rfl, gw_of1 208 rfl rfl⟩
theorem cnX11_35 : CN RX11 35 5 := ⟨RX5, TX5, rfl, clX5, tyX5_ok, by decide +kernel, gw_of1 216 rfl rfl, gw_of1 217 rfl rfl, gw_of1 10 rfl rfl⟩
theorem klX11_35 : Cond.classLink RX11 35 RX5 ∈ gw := gw_of1 216 rfl rfl
theorem cniX11_37 : CIN RX11 37 YX5_init := ⟨cbX5_init, lw_of1 218 rfl, gw_of1 219 rfl rfl, rfl, rfl⟩
theorem oiX5_3 : Cond.methodLink RX5 3 objectInit ∈ gw := gw_of1 221 rfl rfl
theorem fdX5_24 : FD RX5 24 5 0 .int false := ⟨RX5, TX5, rfl, clX5, tyX5_ok, nmX5, by decide, rfl, rfl, rfl, gw_of1 222 rfl rfl⟩
theorem fdX7_127 : FD RX7 127 5 0 .int false := ⟨RX5, TX5, rfl, clX5, tyX5_ok, nmX5, by decide, rfl, rfl, rfl, gw_of1 223 rfl rfl⟩
theorem fdX11_198 : FD RX11 198 5 0 .int false := ⟨RX5, TX5, rfl, clX5, tyX5_ok, nmX5, by decide, rfl, rfl, rfl, gw_of1 224 rfl rfl⟩
theorem fdX5_9 : FD RX5 9 5 1 (.array .int) true := ⟨RX5, TX5, rfl, clX5, tyX5_ok, nmX5, by decide, rfl, rfl, rfl, gw_of1 225 rfl rfl⟩
theorem fdX11_209 : FD RX11 209 5 1 (.array .int) true := ⟨RX5, TX5, rfl, clX5, tyX5_ok, nmX5, by decide, rfl, rfl, rfl, gw_of1 226 rfl rfl⟩
theorem fdX5_15 : FD RX5 15 5 2 (.array .int) true := ⟨RX5, TX5, rfl, clX5, tyX5_ok, nmX5, by decide, rfl, rfl, rfl, gw_of1 227 rfl rfl⟩
theorem fdX5_18 : FD RX5 18 5 3 (.array .int) true := ⟨RX5, TX5, rfl, clX5, tyX5_ok, nmX5, by decide, rfl, rfl, rfl, gw_of1 228 rfl rfl⟩
theorem fdX5_21 : FD RX5 21 5 4 (.array .int) true := ⟨RX5, TX5, rfl, clX5, tyX5_ok, nmX5, by decide, rfl, rfl, rfl, gw_of1 229 rfl rfl⟩
theorem cnX11_45 : CN RX11 45 10 := ⟨RX10, TX10, rfl, clX10, tyX10_ok, by decide +kernel, gw_of2 1 rfl rfl, gw_of2 2 rfl rfl, gw_of1 11 rfl rfl⟩
theorem klX11_45 : Cond.classLink RX11 45 RX10 ∈ gw := gw_of2 1 rfl rfl
theorem cniX11_47 : CIN RX11 47 YX10_init := ⟨cbX10_init, lw_of2 3 rfl, gw_of2 4 rfl rfl, rfl, rfl⟩
theorem oiX10_3 : Cond.methodLink RX10 3 objectInit ∈ gw := gw_of2 6 rfl rfl
theorem fdX10_15 : FD RX10 15 10 0 .int false := ⟨RX10, TX10, rfl, clX10, tyX10_ok, nmX10, by decide, rfl, rfl, rfl, gw_of2 7 rfl rfl⟩
theorem fdX11_129 : FD RX11 129 10 0 .int false := ⟨RX10, TX10, rfl, clX10, tyX10_ok, nmX10, by decide, rfl, rfl, rfl, gw_of2 8 rfl rfl⟩
theorem fdX10_9 : FD RX10 9 10 1 (.array .int) true := ⟨RX10, TX10, rfl, clX10, tyX10_ok, nmX10, by decide, rfl, rfl, rfl, gw_of2 9 rfl rfl⟩
theorem fdX11_138 : FD RX11 138 10 1 (.array .int) true := ⟨RX10, TX10, rfl, clX10, tyX10_ok, nmX10, by decide, rfl, rfl, rfl, gw_of2 10 rfl rfl⟩
theorem fdX10_19 : FD RX10 19 10 2 .boolean false := ⟨RX10, TX10, rfl, clX10, tyX10_ok, nmX10, by decide, rfl, rfl, rfl, gw_of2 11 rfl rfl⟩
theorem fdX10_23 : FD RX10 23 10 3 .int false := ⟨RX10, TX10, rfl, clX10, tyX10_ok, nmX10, by decide, rfl, rfl, rfl, gw_of2 12 rfl rfl⟩
theorem fdX11_348 : FD RX11 348 10 3 .int false := ⟨RX10, TX10, rfl, clX10, tyX10_ok, nmX10, by decide, rfl, rfl, rfl, gw_of2 13 rfl rfl⟩
theorem fdX10_26 : FD RX10 26 10 4 .int false := ⟨RX10, TX10, rfl, clX10, tyX10_ok, nmX10, by decide, rfl, rfl, rfl, gw_of2 14 rfl rfl⟩
theorem fdX11_337 : FD RX11 337 10 4 .int false := ⟨RX10, TX10, rfl, clX10, tyX10_ok, nmX10, by decide, rfl, rfl, rfl, gw_of2 15 rfl rfl⟩
theorem cnX11_55 : CN RX11 55 4 := ⟨RX4, TX4, rfl, clX4, tyX4_ok, by decide +kernel, gw_of2 27 rfl rfl, gw_of2 28 rfl rfl, gw_of1 12 rfl rfl⟩
theorem klX11_55 : Cond.classLink RX11 55 RX4 ∈ gw := gw_of2 27 rfl rfl
theorem ciiX11_57 : CI RX11 57 YX4_init := ⟨cbX4_init, gw_of2 29 rfl rfl, gw_of2 30 rfl rfl, rfl, rfl⟩
theorem oiX4_3 : Cond.methodLink RX4 3 objectInit ∈ gw := gw_of2 32 rfl rfl
theorem cnX4_9 : CN RX4 9 10 := ⟨RX10, TX10, rfl, clX10, tyX10_ok, by decide +kernel, gw_of2 33 rfl rfl, gw_of2 2 rfl rfl, gw_of1 11 rfl rfl⟩
theorem klX4_9 : Cond.classLink RX4 9 RX10 ∈ gw := gw_of2 33 rfl rfl
theorem cniX4_17 : CIN RX4 17 YX10_init := ⟨cbX10_init, lw_of2 35 rfl, gw_of2 4 rfl rfl, rfl, rfl⟩
theorem fdX4_11 : FD RX4 11 4 0 (.array (.object "CountyPrint$Travel")) true := ⟨RX4, TX4, rfl, clX4, tyX4_ok, nmX4, by decide, rfl, rfl, rfl, gw_of2 36 rfl rfl⟩
theorem fdX4_18 : FD RX4 18 4 1 .int false := ⟨RX4, TX4, rfl, clX4, tyX4_ok, nmX4, by decide, rfl, rfl, rfl, gw_of2 37 rfl rfl⟩
theorem fdX4_26 : FD RX4 26 4 2 .int false := ⟨RX4, TX4, rfl, clX4, tyX4_ok, nmX4, by decide, rfl, rfl, rfl, gw_of2 38 rfl rfl⟩
theorem fdX11_341 : FD RX11 341 4 2 .int false := ⟨RX4, TX4, rfl, clX4, tyX4_ok, nmX4, by decide, rfl, rfl, rfl, gw_of2 39 rfl rfl⟩
theorem cnX11_62 : CN RX11 62 8 := ⟨RX8, TX8, rfl, clX8, tyX8_ok, by decide +kernel, gw_of2 47 rfl rfl, gw_of2 48 rfl rfl, gw_of1 13 rfl rfl⟩
theorem klX11_62 : Cond.classLink RX11 62 RX8 ∈ gw := gw_of2 47 rfl rfl
theorem cniX11_64 : CIN RX11 64 YX8_init := ⟨cbX8_init, lw_of2 49 rfl, gw_of2 50 rfl rfl, rfl, rfl⟩
theorem oiX8_3 : Cond.methodLink RX8 3 objectInit ∈ gw := gw_of2 52 rfl rfl
theorem fdX8_9 : FD RX8 9 8 0 (.array .int) true := ⟨RX8, TX8, rfl, clX8, tyX8_ok, nmX8, by decide, rfl, rfl, rfl, gw_of2 53 rfl rfl⟩
theorem fdX8_15 : FD RX8 15 8 1 (.array .boolean) true := ⟨RX8, TX8, rfl, clX8, tyX8_ok, nmX8, by decide, rfl, rfl, rfl, gw_of2 54 rfl rfl⟩
theorem fdX8_19 : FD RX8 19 8 2 .int false := ⟨RX8, TX8, rfl, clX8, tyX8_ok, nmX8, by decide, rfl, rfl, rfl, gw_of2 55 rfl rfl⟩
theorem fdX11_340 : FD RX11 340 8 2 .int false := ⟨RX8, TX8, rfl, clX8, tyX8_ok, nmX8, by decide, rfl, rfl, rfl, gw_of2 56 rfl rfl⟩
theorem cnX11_69 : CN RX11 69 3 := ⟨RX3, TX3, rfl, clX3, tyX3_ok, by decide +kernel, gw_of2 65 rfl rfl, gw_of2 67 rfl rfl, gw_of1 14 rfl rfl⟩
theorem klX11_69 : Cond.classLink RX11 69 RX3 ∈ gw := gw_of2 65 rfl rfl
theorem cniX11_75 : CIN RX11 75 YX3_init := ⟨cbX3_init, lw_of2 68 rfl, gw_of2 69 rfl rfl, rfl, rfl⟩
theorem oiX3_1 : Cond.methodLink RX3 1 objectInit ∈ gw := gw_of2 71 rfl rfl
theorem cnX3_7 : CN RX3 7 10 := ⟨RX10, TX10, rfl, clX10, tyX10_ok, by decide +kernel, gw_of2 72 rfl rfl, gw_of2 2 rfl rfl, gw_of1 11 rfl rfl⟩
theorem klX3_7 : Cond.classLink RX3 7 RX10 ∈ gw := gw_of2 72 rfl rfl
theorem cniX3_9 : CIN RX3 9 YX10_init := ⟨cbX10_init, lw_of2 73 rfl, gw_of2 4 rfl rfl, rfl, rfl⟩
theorem cnX3_16 : CN RX3 16 5 := ⟨RX5, TX5, rfl, clX5, tyX5_ok, by decide +kernel, gw_of2 74 rfl rfl, gw_of1 217 rfl rfl, gw_of1 10 rfl rfl⟩
theorem klX3_16 : Cond.classLink RX3 16 RX5 ∈ gw := gw_of2 74 rfl rfl
theorem cniX3_18 : CIN RX3 18 YX5_init := ⟨cbX5_init, lw_of2 75 rfl, gw_of1 219 rfl rfl, rfl, rfl⟩
theorem cnX3_23 : CN RX3 23 8 := ⟨RX8, TX8, rfl, clX8, tyX8_ok, by decide +kernel, gw_of2 76 rfl rfl, gw_of2 48 rfl rfl, gw_of1 13 rfl rfl⟩
theorem klX3_23 : Cond.classLink RX3 23 RX8 ∈ gw := gw_of2 76 rfl rfl
theorem cniX3_25 : CIN RX3 25 YX8_init := ⟨cbX8_init, lw_of2 77 rfl, gw_of2 50 rfl rfl, rfl, rfl⟩
theorem fdX3_40 : FD RX3 40 3 0 .boolean false := ⟨RX3, TX3, rfl, clX3, tyX3_ok, nmX3, by decide, rfl, rfl, rfl, gw_of2 78 rfl rfl⟩
theorem fdX11_327 : FD RX11 327 3 0 .boolean false := ⟨RX3, TX3, rfl, clX3, tyX3_ok, nmX3, by decide, rfl, rfl, rfl, gw_of2 79 rfl rfl⟩
theorem fdX3_10 : FD RX3 10 3 1 (.object "CountyPrint$Travel") true := ⟨RX3, TX3, rfl, clX3, tyX3_ok, nmX3, by decide, rfl, rfl, rfl, gw_of2 80 rfl rfl⟩
theorem fdX3_19 : FD RX3 19 3 2 (.object "CountyPrint$Plan") true := ⟨RX3, TX3, rfl, clX3, tyX3_ok, nmX3, by decide, rfl, rfl, rfl, gw_of2 81 rfl rfl⟩
theorem fdX3_26 : FD RX3 26 3 3 (.object "CountyPrint$Sightings") true := ⟨RX3, TX3, rfl, clX3, tyX3_ok, nmX3, by decide, rfl, rfl, rfl, gw_of2 82 rfl rfl⟩
theorem cnX11_76 : CN RX11 76 6 := ⟨RX6, TX6, rfl, clX6, tyX6_ok, by decide +kernel, gw_of2 92 rfl rfl, gw_of2 93 rfl rfl, gw_of1 15 rfl rfl⟩
theorem klX11_76 : Cond.classLink RX11 76 RX6 ∈ gw := gw_of2 92 rfl rfl
theorem cniX11_78 : CIN RX11 78 YX6_init := ⟨cbX6_init, lw_of2 94 rfl, gw_of2 95 rfl rfl, rfl, rfl⟩
theorem oiX6_3 : Cond.methodLink RX6 3 objectInit ∈ gw := gw_of2 97 rfl rfl
theorem fdX6_9 : FD RX6 9 6 0 (.array .int) true := ⟨RX6, TX6, rfl, clX6, tyX6_ok, nmX6, by decide, rfl, rfl, rfl, gw_of2 98 rfl rfl⟩
theorem fdX6_15 : FD RX6 15 6 1 (.array .int) true := ⟨RX6, TX6, rfl, clX6, tyX6_ok, nmX6, by decide, rfl, rfl, rfl, gw_of2 99 rfl rfl⟩
theorem fdX11_267 : FD RX11 267 6 1 (.array .int) true := ⟨RX6, TX6, rfl, clX6, tyX6_ok, nmX6, by decide, rfl, rfl, rfl, gw_of2 100 rfl rfl⟩
theorem fdX6_18 : FD RX6 18 6 2 .int false := ⟨RX6, TX6, rfl, clX6, tyX6_ok, nmX6, by decide, rfl, rfl, rfl, gw_of2 101 rfl rfl⟩
theorem fdX11_264 : FD RX11 264 6 2 .int false := ⟨RX6, TX6, rfl, clX6, tyX6_ok, nmX6, by decide, rfl, rfl, rfl, gw_of2 102 rfl rfl⟩
theorem cnX11_83 : CN RX11 83 1 := ⟨RX1, TX1, rfl, clX1, tyX1_ok, by decide +kernel, gw_of2 110 rfl rfl, gw_of2 111 rfl rfl, gw_of1 16 rfl rfl⟩
theorem klX11_83 : Cond.classLink RX11 83 RX1 ∈ gw := gw_of2 110 rfl rfl
theorem cniX11_85 : CIN RX11 85 YX1_init := ⟨cbX1_init, lw_of2 112 rfl, gw_of2 113 rfl rfl, rfl, rfl⟩
theorem oiX1_1 : Cond.methodLink RX1 1 objectInit ∈ gw := gw_of2 115 rfl rfl
theorem fdX1_7 : FD RX1 7 1 0 .long false := ⟨RX1, TX1, rfl, clX1, tyX1_ok, nmX1, by decide, rfl, rfl, rfl, gw_of2 116 rfl rfl⟩
theorem fdX11_22 : FD RX11 22 11 0 (.object "CountyPrint$Tape") true := ⟨RX11, TX11, rfl, clX11, tyX11_ok, nmX11, by decide, rfl, rfl, rfl, gw_of2 120 rfl rfl⟩
theorem fdX11_31 : FD RX11 31 11 1 (.object "CountyPrint$Reader") true := ⟨RX11, TX11, rfl, clX11, tyX11_ok, nmX11, by decide, rfl, rfl, rfl, gw_of2 121 rfl rfl⟩
theorem fdX11_10 : FD RX11 10 11 2 (.object "CountyPrint$County") false := ⟨RX11, TX11, rfl, clX11, tyX11_ok, nmX11, by decide, rfl, rfl, rfl, gw_of2 122 rfl rfl⟩
theorem fdX11_16 : FD RX11 16 11 3 (.object "CountyPrint$County") false := ⟨RX11, TX11, rfl, clX11, tyX11_ok, nmX11, by decide, rfl, rfl, rfl, gw_of2 123 rfl rfl⟩
theorem fdX11_38 : FD RX11 38 11 4 (.object "CountyPrint$Plan") false := ⟨RX11, TX11, rfl, clX11, tyX11_ok, nmX11, by decide, rfl, rfl, rfl, gw_of2 124 rfl rfl⟩
theorem fdX11_42 : FD RX11 42 11 5 (.object "CountyPrint$Plan") false := ⟨RX11, TX11, rfl, clX11, tyX11_ok, nmX11, by decide, rfl, rfl, rfl, gw_of2 125 rfl rfl⟩
theorem fdX11_48 : FD RX11 48 11 6 (.object "CountyPrint$Travel") true := ⟨RX11, TX11, rfl, clX11, tyX11_ok, nmX11, by decide, rfl, rfl, rfl, gw_of2 126 rfl rfl⟩
theorem fdX11_52 : FD RX11 52 11 7 (.object "CountyPrint$Travel") true := ⟨RX11, TX11, rfl, clX11, tyX11_ok, nmX11, by decide, rfl, rfl, rfl, gw_of2 127 rfl rfl⟩
theorem fdX11_58 : FD RX11 58 11 8 (.object "CountyPrint$Past") true := ⟨RX11, TX11, rfl, clX11, tyX11_ok, nmX11, by decide, rfl, rfl, rfl, gw_of2 128 rfl rfl⟩
theorem fdX11_65 : FD RX11 65 11 9 (.object "CountyPrint$Sightings") true := ⟨RX11, TX11, rfl, clX11, tyX11_ok, nmX11, by decide, rfl, rfl, rfl, gw_of2 129 rfl rfl⟩
theorem fdX11_71 : FD RX11 71 11 10 (.array (.object "CountyPrint$Mark")) true := ⟨RX11, TX11, rfl, clX11, tyX11_ok, nmX11, by decide, rfl, rfl, rfl, gw_of2 130 rfl rfl⟩
theorem fdX11_79 : FD RX11 79 11 11 (.object "CountyPrint$Ranking") true := ⟨RX11, TX11, rfl, clX11, tyX11_ok, nmX11, by decide, rfl, rfl, rfl, gw_of2 131 rfl rfl⟩
theorem fdX11_86 : FD RX11 86 11 12 (.object "CountyPrint$Draws") true := ⟨RX11, TX11, rfl, clX11, tyX11_ok, nmX11, by decide, rfl, rfl, rfl, gw_of2 132 rfl rfl⟩
theorem fdX11_90 : FD RX11 90 11 13 (.array .int) true := ⟨RX11, TX11, rfl, clX11, tyX11_ok, nmX11, by decide, rfl, rfl, rfl, gw_of2 133 rfl rfl⟩
theorem cvL_25 : CV RL 25 YX11_feed := ⟨cbX11_feed, gw_of2 163 rfl rfl, gw_of2 164 rfl rfl, gw_of2 165 rfl rfl⟩
theorem cvX11_94 : CV RX11 94 YX9_addBytes := ⟨cbX9_addBytes, gw_of2 167 rfl rfl, gw_of2 168 rfl rfl, gw_of2 169 rfl rfl⟩
theorem cvL_30 : CV RL 30 YX11_county := ⟨cbX11_county, gw_of2 171 rfl rfl, gw_of2 172 rfl rfl, gw_of2 173 rfl rfl⟩
theorem cvX11_102 : CV RX11 102 YX7_readCounty := ⟨cbX7_readCounty, gw_of2 175 rfl rfl, gw_of2 176 rfl rfl, gw_of2 177 rfl rfl⟩
theorem cvX7_19 : CV RX7 19 YX7_begin := ⟨cbX7_begin, gw_of2 179 rfl rfl, gw_of2 181 rfl rfl, gw_sel 0 (q := (yX7_begin, 3)) (by decide +kernel) (by decide +kernel)⟩
theorem cvX7_64 : CV RX7 64 YX9_start := ⟨cbX9_start, gw_of2 183 rfl rfl, gw_of2 184 rfl rfl, gw_of2 185 rfl rfl⟩
theorem cvX9_40 : CV RX9 40 YX9_advance := ⟨cbX9_advance, gw_of2 187 rfl rfl, gw_of2 188 rfl rfl, gw_of2 189 rfl rfl⟩
theorem csX9_56 : CS RX9 56 YX9_isLetter := ⟨cbX9_isLetter, gw_of2 191 rfl rfl, gw_of2 192 rfl rfl⟩
theorem cvX9_60 : CV RX9 60 YX9_takeWord := ⟨cbX9_takeWord, gw_of2 194 rfl rfl, gw_of2 196 rfl rfl, gw_sel 1 (q := (yX9_takeWord, 10)) (by decide +kernel) (by decide +kernel)⟩
theorem csX9_63 : CS RX9 63 YX9_isDigit := ⟨cbX9_isDigit, gw_of2 198 rfl rfl, gw_of2 199 rfl rfl⟩
theorem cvX9_66 : CV RX9 66 YX9_takeNumber := ⟨cbX9_takeNumber, gw_of2 201 rfl rfl, gw_of2 203 rfl rfl, gw_sel 2 (q := (yX9_takeNumber, 10)) (by decide +kernel) (by decide +kernel)⟩
theorem cvX9_69 : CV RX9 69 YX9_takeSign := ⟨cbX9_takeSign, gw_of2 205 rfl rfl, gw_of2 207 rfl rfl, gw_sel 3 (q := (yX9_takeSign, 10)) (by decide +kernel) (by decide +kernel)⟩
theorem cvX7_23 : CV RX7 23 YX0_clear := ⟨cbX0_clear, gw_of2 209 rfl rfl, gw_of2 210 rfl rfl, gw_of2 211 rfl rfl⟩
theorem cvX7_37 : CV RX7 37 YX7_readShot := ⟨cbX7_readShot, gw_of2 213 rfl rfl, gw_of2 215 rfl rfl, gw_sel 4 (q := (yX7_readShot, 3)) (by decide +kernel) (by decide +kernel)⟩
theorem cvX7_47 : CV RX7 47 YX7_fail := ⟨cbX7_fail, gw_of2 217 rfl rfl, gw_of2 219 rfl rfl, gw_sel 5 (q := (yX7_fail, 3)) (by decide +kernel) (by decide +kernel)⟩
theorem cvX7_73 : CV RX7 73 YX9_advance := ⟨cbX9_advance, gw_of2 221 rfl rfl, gw_of2 188 rfl rfl, gw_of2 189 rfl rfl⟩
theorem cvX7_80 : CV RX7 80 YX7_takeNewName := ⟨cbX7_takeNewName, gw_of2 222 rfl rfl, gw_of2 224 rfl rfl, gw_sel 6 (q := (yX7_takeNewName, 3)) (by decide +kernel) (by decide +kernel)⟩
theorem cvX7_107 : CV RX7 107 YX7_isName := ⟨cbX7_isName, gw_of2 226 rfl rfl, gw_of2 228 rfl rfl, gw_sel 7 (q := (yX7_isName, 3)) (by decide +kernel) (by decide +kernel)⟩
theorem cvX7_100 : CV RX7 100 YX0_shotNamed := ⟨cbX0_shotNamed, gw_of2 230 rfl rfl, gw_of2 231 rfl rfl, gw_of2 232 rfl rfl⟩
theorem cvX7_141 : CV RX7 141 YX0_hallNamed := ⟨cbX0_hallNamed, gw_of2 234 rfl rfl, gw_of2 235 rfl rfl, gw_of2 236 rfl rfl⟩
theorem cvX7_83 : CV RX7 83 YX7_takeKeyword := ⟨cbX7_takeKeyword, gw_of2 238 rfl rfl, gw_of3 0 rfl rfl, gw_sel 8 (q := (yX7_takeKeyword, 3)) (by decide +kernel) (by decide +kernel)⟩
theorem cvX7_89 : CV RX7 89 YX7_takeNumber := ⟨cbX7_takeNumber, gw_of3 2 rfl rfl, gw_of3 4 rfl rfl, gw_sel 9 (q := (yX7_takeNumber, 3)) (by decide +kernel) (by decide +kernel)⟩
theorem cvX7_93 : CV RX7 93 YX7_takeSemicolon := ⟨cbX7_takeSemicolon, gw_of3 6 rfl rfl, gw_of3 8 rfl rfl, gw_sel 10 (q := (yX7_takeSemicolon, 3)) (by decide +kernel) (by decide +kernel)⟩
theorem cvX7_144 : CV RX7 144 YX9_isSign := ⟨cbX9_isSign, gw_of3 10 rfl rfl, gw_of3 11 rfl rfl, gw_of3 12 rfl rfl⟩
theorem cvX7_96 : CV RX7 96 YX0_addShot := ⟨cbX0_addShot, gw_of3 14 rfl rfl, gw_of3 15 rfl rfl, gw_of3 16 rfl rfl⟩
theorem cvX7_41 : CV RX7 41 YX7_readNeeds := ⟨cbX7_readNeeds, gw_of3 18 rfl rfl, gw_of3 20 rfl rfl, gw_sel 11 (q := (yX7_readNeeds, 3)) (by decide +kernel) (by decide +kernel)⟩
theorem cvX7_104 : CV RX7 104 YX7_takeTold := ⟨cbX7_takeTold, gw_of3 22 rfl rfl, gw_of3 24 rfl rfl, gw_sel 12 (q := (yX7_takeTold, 3)) (by decide +kernel) (by decide +kernel)⟩
theorem cvX7_110 : CV RX7 110 YX0_isNeeded := ⟨cbX0_isNeeded, gw_of3 26 rfl rfl, gw_of3 27 rfl rfl, gw_of3 28 rfl rfl⟩
theorem cvX0_51 : CV RX0 51 YX0_isShot := ⟨cbX0_isShot, gw_of3 30 rfl rfl, gw_of3 31 rfl rfl, gw_of3 32 rfl rfl⟩
theorem cvX7_113 : CV RX7 113 YX0_addNeed := ⟨cbX0_addNeed, gw_of3 34 rfl rfl, gw_of3 35 rfl rfl, gw_of3 36 rfl rfl⟩
theorem cvX7_44 : CV RX7 44 YX7_readHall := ⟨cbX7_readHall, gw_of3 38 rfl rfl, gw_of3 40 rfl rfl, gw_sel 13 (q := (yX7_readHall, 3)) (by decide +kernel) (by decide +kernel)⟩
theorem cvX7_120 : CV RX7 120 YX7_readExpression := ⟨cbX7_readExpression, gw_of3 42 rfl rfl, gw_of3 44 rfl rfl, gw_sel 14 (q := (yX7_readExpression, 3)) (by decide +kernel) (by decide +kernel)⟩
theorem cvX7_148 : CV RX7 148 YX7_readTest := ⟨cbX7_readTest, gw_of3 46 rfl rfl, gw_of3 48 rfl rfl, gw_sel 15 (q := (yX7_readTest, 3)) (by decide +kernel) (by decide +kernel)⟩
theorem cvX7_160 : CV RX7 160 YX7_readSum := ⟨cbX7_readSum, gw_of3 50 rfl rfl, gw_of3 52 rfl rfl, gw_sel 16 (q := (yX7_readSum, 3)) (by decide +kernel) (by decide +kernel)⟩
theorem cvX7_163 : CV RX7 163 YX7_readProduct := ⟨cbX7_readProduct, gw_of3 54 rfl rfl, gw_of3 56 rfl rfl, gw_sel 17 (q := (yX7_readProduct, 3)) (by decide +kernel) (by decide +kernel)⟩
theorem cvX7_166 : CV RX7 166 YX7_readPart := ⟨cbX7_readPart, gw_of3 58 rfl rfl, gw_of3 60 rfl rfl, gw_sel 18 (q := (yX7_readPart, 3)) (by decide +kernel) (by decide +kernel)⟩
theorem cvX7_157 : CV RX7 157 YX2_add := ⟨cbX2_add, gw_of3 62 rfl rfl, gw_of3 63 rfl rfl, gw_of3 64 rfl rfl⟩
theorem cvX7_169 : CV RX7 169 YX7_readBracketed := ⟨cbX7_readBracketed, gw_of3 66 rfl rfl, gw_of3 68 rfl rfl, gw_sel 19 (q := (yX7_readBracketed, 3)) (by decide +kernel) (by decide +kernel)⟩
theorem cvX7_172 : CV RX7 172 YX7_readNegated := ⟨cbX7_readNegated, gw_of3 70 rfl rfl, gw_of3 72 rfl rfl, gw_sel 20 (q := (yX7_readNegated, 3)) (by decide +kernel) (by decide +kernel)⟩
theorem cvX7_123 : CV RX7 123 YX0_addHall := ⟨cbX0_addHall, gw_of3 74 rfl rfl, gw_of3 75 rfl rfl, gw_of3 76 rfl rfl⟩
theorem cvX11_106 : CV RX11 106 YX0_judgeAll := ⟨cbX0_judgeAll, gw_of3 78 rfl rfl, gw_of3 79 rfl rfl, gw_of3 80 rfl rfl⟩
theorem cvX0_89 : CV RX0 89 YX0_judge := ⟨cbX0_judge, gw_of3 82 rfl rfl, gw_of3 84 rfl rfl, gw_sel 21 (q := (yX0_judge, 10)) (by decide +kernel) (by decide +kernel)⟩
theorem cvX0_85 : CV RX0 85 YX0_keyOf := ⟨cbX0_keyOf, gw_of3 86 rfl rfl, gw_of3 88 rfl rfl, gw_sel 22 (q := (yX0_keyOf, 10)) (by decide +kernel) (by decide +kernel)⟩
theorem cvX0_73 : CV RX0 73 YX0_isHall := ⟨cbX0_isHall, gw_of3 90 rfl rfl, gw_of3 91 rfl rfl, gw_of3 92 rfl rfl⟩
theorem cvX0_93 : CV RX0 93 YX2_valueFor := ⟨cbX2_valueFor, gw_of3 94 rfl rfl, gw_of3 95 rfl rfl, gw_of3 96 rfl rfl⟩
theorem csX2_25 : CS RX2 25 YX2_join := ⟨cbX2_join, gw_of3 98 rfl rfl, gw_of3 99 rfl rfl⟩
theorem cvX11_109 : CV RX11 109 YX11_beginAnew := ⟨cbX11_beginAnew, gw_of3 101 rfl rfl, gw_of3 103 rfl rfl, gw_sel 23 (q := (yX11_beginAnew, 14)) (by decide +kernel) (by decide +kernel)⟩
theorem cvX11_191 : CV RX11 191 YX0_film := ⟨cbX0_film, gw_of3 105 rfl rfl, gw_of3 106 rfl rfl, gw_of3 107 rfl rfl⟩
theorem cvX11_194 : CV RX11 194 YX10_begin := ⟨cbX10_begin, gw_of3 109 rfl rfl, gw_of3 110 rfl rfl, gw_of3 111 rfl rfl⟩
theorem cvX11_342 : CV RX11 342 YX5_clear := ⟨cbX5_clear, gw_of3 113 rfl rfl, gw_of3 114 rfl rfl, gw_of3 115 rfl rfl⟩
theorem cvX11_334 : CV RX11 334 YX4_forget := ⟨cbX4_forget, gw_of3 117 rfl rfl, gw_of3 118 rfl rfl, gw_of3 119 rfl rfl⟩
theorem cvL_35 : CV RL 35 YX11_round := ⟨cbX11_round, gw_of3 121 rfl rfl, gw_of3 122 rfl rfl, gw_of3 123 rfl rfl⟩
theorem cvX11_112 : CV RX11 112 YX7_readPlan := ⟨cbX7_readPlan, gw_of3 125 rfl rfl, gw_of3 126 rfl rfl, gw_of3 127 rfl rfl⟩
theorem cvX7_57 : CV RX7 57 YX5_clear := ⟨cbX5_clear, gw_of3 129 rfl rfl, gw_of3 114 rfl rfl, gw_of3 115 rfl rfl⟩
theorem cvX7_60 : CV RX7 60 YX7_readPlanLine := ⟨cbX7_readPlanLine, gw_of3 130 rfl rfl, gw_of3 132 rfl rfl, gw_sel 24 (q := (yX7_readPlanLine, 3)) (by decide +kernel) (by decide +kernel)⟩
theorem cvX7_130 : CV RX7 130 YX7_readHandling := ⟨cbX7_readHandling, gw_of3 134 rfl rfl, gw_of3 136 rfl rfl, gw_sel 25 (q := (yX7_readHandling, 3)) (by decide +kernel) (by decide +kernel)⟩
theorem cvX7_137 : CV RX7 137 YX5_add := ⟨cbX5_add, gw_of3 138 rfl rfl, gw_of3 139 rfl rfl, gw_of3 140 rfl rfl⟩
theorem cvX7_134 : CV RX7 134 YX7_readBare := ⟨cbX7_readBare, gw_of3 142 rfl rfl, gw_of3 144 rfl rfl, gw_sel 26 (q := (yX7_readBare, 3)) (by decide +kernel) (by decide +kernel)⟩
theorem cvL_39 : CV RL 39 YX11_shot := ⟨cbX11_shot, gw_of3 146 rfl rfl, gw_of3 147 rfl rfl, gw_of3 148 rfl rfl⟩
theorem cvX11_116 : CV RX11 116 YX0_isShot := ⟨cbX0_isShot, gw_of3 150 rfl rfl, gw_of3 31 rfl rfl, gw_of3 32 rfl rfl⟩
theorem cvL_44 : CV RL 44 YX11_hall := ⟨cbX11_hall, gw_of3 151 rfl rfl, gw_of3 152 rfl rfl, gw_of3 153 rfl rfl⟩
theorem cvX11_132 : CV RX11 132 YX0_isHall := ⟨cbX0_isHall, gw_of3 155 rfl rfl, gw_of3 91 rfl rfl, gw_of3 92 rfl rfl⟩
theorem cvX11_141 : CV RX11 141 YX10_swapPlace := ⟨cbX10_swapPlace, gw_of3 156 rfl rfl, gw_of3 157 rfl rfl, gw_of3 158 rfl rfl⟩
theorem cvX11_145 : CV RX11 145 YX0_takenOut := ⟨cbX0_takenOut, gw_of3 160 rfl rfl, gw_of3 161 rfl rfl, gw_of3 162 rfl rfl⟩
theorem cvX0_76 : CV RX0 76 YX0_hatedIn := ⟨cbX0_hatedIn, gw_of3 164 rfl rfl, gw_of3 165 rfl rfl, gw_of3 166 rfl rfl⟩
theorem cvX0_79 : CV RX0 79 YX0_behind := ⟨cbX0_behind, gw_of3 168 rfl rfl, gw_of3 170 rfl rfl, gw_sel 27 (q := (yX0_behind, 10)) (by decide +kernel) (by decide +kernel)⟩
theorem cvX0_82 : CV RX0 82 YX0_lastOf := ⟨cbX0_lastOf, gw_of3 172 rfl rfl, gw_of3 174 rfl rfl, gw_sel 28 (q := (yX0_lastOf, 10)) (by decide +kernel) (by decide +kernel)⟩
theorem cvL_48 : CV RL 48 YX11_show := ⟨cbX11_show, gw_of3 176 rfl rfl, gw_of3 177 rfl rfl, gw_of3 178 rfl rfl⟩
theorem cvX11_152 : CV RX11 152 YX4_keep := ⟨cbX4_keep, gw_of3 180 rfl rfl, gw_of3 181 rfl rfl, gw_of3 182 rfl rfl⟩
theorem cvX4_22 : CV RX4 22 YX10_copy := ⟨cbX10_copy, gw_of3 184 rfl rfl, gw_of3 185 rfl rfl, gw_of3 186 rfl rfl⟩
theorem mmX4_29 : Cond.methodLink RX4 29 Lib.Math.min.name ∈ gw := gw_of3 188 rfl rfl
theorem cvX11_156 : CV RX11 156 YX10_showNext := ⟨cbX10_showNext, gw_of3 191 rfl rfl, gw_of3 192 rfl rfl, gw_of3 193 rfl rfl⟩
theorem cvX10_42 : CV RX10 42 YX10_showAt := ⟨cbX10_showAt, gw_of3 195 rfl rfl, gw_of3 196 rfl rfl, gw_of3 197 rfl rfl⟩
theorem cvX10_38 : CV RX10 38 YX0_takenOut := ⟨cbX0_takenOut, gw_of3 199 rfl rfl, gw_of3 161 rfl rfl, gw_of3 162 rfl rfl⟩
theorem cvX10_46 : CV RX10 46 YX10_swapPlace := ⟨cbX10_swapPlace, gw_of3 200 rfl rfl, gw_of3 157 rfl rfl, gw_of3 158 rfl rfl⟩
theorem cvX11_159 : CV RX11 159 YX0_minutesOf := ⟨cbX0_minutesOf, gw_of3 201 rfl rfl, gw_of3 202 rfl rfl, gw_of3 203 rfl rfl⟩
theorem cvL_52 : CV RL 52 YX11_give := ⟨cbX11_give, gw_of3 205 rfl rfl, gw_of3 206 rfl rfl, gw_of3 207 rfl rfl⟩
theorem cvX11_163 : CV RX11 163 YX11_liesIn := ⟨cbX11_liesIn, gw_of3 209 rfl rfl, gw_of3 211 rfl rfl, gw_sel 29 (q := (yX11_liesIn, 14)) (by decide +kernel) (by decide +kernel)⟩
theorem cvX11_345 : CV RX11 345 YX10_holds := ⟨cbX10_holds, gw_of3 213 rfl rfl, gw_of3 214 rfl rfl, gw_of3 215 rfl rfl⟩
theorem cvX11_167 : CV RX11 167 YX10_giveBack := ⟨cbX10_giveBack, gw_of3 217 rfl rfl, gw_of3 218 rfl rfl, gw_of3 219 rfl rfl⟩
theorem cvX10_34 : CV RX10 34 YX10_holds := ⟨cbX10_holds, gw_of3 221 rfl rfl, gw_of3 214 rfl rfl, gw_of3 215 rfl rfl⟩
theorem csX11_171 : CS RX11 171 YJ6_bitCount_0f7a4 := ⟨cbJ6_bitCount_0f7a4, gw_of3 222 rfl rfl, gw_of3 223 rfl rfl⟩
theorem kiJ6_265 : Cond.constant RJ6 265 (1431655765) ∈ gw := gw_of3 225 rfl rfl
theorem kiJ6_266 : Cond.constant RJ6 266 (858993459) ∈ gw := gw_of3 226 rfl rfl
theorem kiJ6_267 : Cond.constant RJ6 267 (252645135) ∈ gw := gw_of3 227 rfl rfl
theorem cvL_56 : CV RL 56 YX11_trade := ⟨cbX11_trade, gw_of3 228 rfl rfl, gw_of3 229 rfl rfl, gw_of3 230 rfl rfl⟩
theorem cvX11_176 : CV RX11 176 YX10_handOver := ⟨cbX10_handOver, gw_of3 232 rfl rfl, gw_of3 233 rfl rfl, gw_of3 234 rfl rfl⟩
theorem cvL_61 : CV RL 61 YX11_turn := ⟨cbX11_turn, gw_of3 236 rfl rfl, gw_of3 237 rfl rfl, gw_of3 238 rfl rfl⟩
theorem cvX11_180 : CV RX11 180 YX10_turnRound := ⟨cbX10_turnRound, gw_of4 0 rfl rfl, gw_of4 1 rfl rfl, gw_of4 2 rfl rfl⟩
theorem cvX11_183 : CV RX11 183 YX11_nextHall := ⟨cbX11_nextHall, gw_of4 4 rfl rfl, gw_of4 6 rfl rfl, gw_sel 30 (q := (yX11_nextHall, 14)) (by decide +kernel) (by decide +kernel)⟩
theorem cvL_65 : CV RL 65 YX11_undo := ⟨cbX11_undo, gw_of4 8 rfl rfl, gw_of4 9 rfl rfl, gw_of4 10 rfl rfl⟩
theorem cvX11_187 : CV RX11 187 YX4_takeBack := ⟨cbX4_takeBack, gw_of4 12 rfl rfl, gw_of4 13 rfl rfl, gw_of4 14 rfl rfl⟩
theorem cvL_70 : CV RL 70 YX11_judged := ⟨cbX11_judged, gw_of4 16 rfl rfl, gw_of4 17 rfl rfl, gw_of4 18 rfl rfl⟩
theorem cvX11_201 : CV RX11 201 YX5_isPossible := ⟨cbX5_isPossible, gw_of4 20 rfl rfl, gw_of4 21 rfl rfl, gw_of4 22 rfl rfl⟩
theorem cvX5_33 : CV RX5 33 YX10_holds := ⟨cbX10_holds, gw_of4 24 rfl rfl, gw_of3 214 rfl rfl, gw_of3 215 rfl rfl⟩
theorem cvX11_205 : CV RX11 205 YX5_follow := ⟨cbX5_follow, gw_of4 25 rfl rfl, gw_of4 26 rfl rfl, gw_of4 27 rfl rfl⟩
theorem cvX5_39 : CV RX5 39 YX10_showNext := ⟨cbX10_showNext, gw_of4 29 rfl rfl, gw_of3 192 rfl rfl, gw_of3 193 rfl rfl⟩
theorem cvX5_43 : CV RX5 43 YX10_giveBack := ⟨cbX10_giveBack, gw_of4 30 rfl rfl, gw_of3 218 rfl rfl, gw_of3 219 rfl rfl⟩
theorem cvX5_47 : CV RX5 47 YX10_handOver := ⟨cbX10_handOver, gw_of4 31 rfl rfl, gw_of3 233 rfl rfl, gw_of3 234 rfl rfl⟩
theorem cvX5_51 : CV RX5 51 YX10_turnRound := ⟨cbX10_turnRound, gw_of4 32 rfl rfl, gw_of4 1 rfl rfl, gw_of4 2 rfl rfl⟩
theorem cvX11_212 : CV RX11 212 YX0_makesSense := ⟨cbX0_makesSense, gw_of4 33 rfl rfl, gw_of4 34 rfl rfl, gw_of4 35 rfl rfl⟩
theorem cvL_74 : CV RL 74 YX11_shown := ⟨cbX11_shown, gw_of4 37 rfl rfl, gw_of4 38 rfl rfl, gw_of4 39 rfl rfl⟩
theorem cvX11_215 : CV RX11 215 YX11_rowShownAt := ⟨cbX11_rowShownAt, gw_of4 41 rfl rfl, gw_of4 43 rfl rfl, gw_sel 31 (q := (yX11_rowShownAt, 14)) (by decide +kernel) (by decide +kernel)⟩
theorem cvX11_227 : CV RX11 227 YX11_isAhead := ⟨cbX11_isAhead, gw_of4 45 rfl rfl, gw_of4 47 rfl rfl, gw_sel 32 (q := (yX11_isAhead, 14)) (by decide +kernel) (by decide +kernel)⟩
theorem cvX11_221 : CV RX11 221 YX11_nextPlace := ⟨cbX11_nextPlace, gw_of4 49 rfl rfl, gw_of4 51 rfl rfl, gw_sel 33 (q := (yX11_nextPlace, 14)) (by decide +kernel) (by decide +kernel)⟩
theorem cvX11_218 : CV RX11 218 YX0_shotAt := ⟨cbX0_shotAt, gw_of4 53 rfl rfl, gw_of4 54 rfl rfl, gw_of4 55 rfl rfl⟩
theorem cvL_78 : CV RL 78 YX11_minutes := ⟨cbX11_minutes, gw_of4 57 rfl rfl, gw_of4 58 rfl rfl, gw_of4 59 rfl rfl⟩
theorem cvL_82 : CV RL 82 YX11_silly := ⟨cbX11_silly, gw_of4 61 rfl rfl, gw_of4 62 rfl rfl, gw_of4 63 rfl rfl⟩
theorem cvL_86 : CV RL 86 YX11_lasts := ⟨cbX11_lasts, gw_of4 65 rfl rfl, gw_of4 66 rfl rfl, gw_of4 67 rfl rfl⟩
theorem cvX11_224 : CV RX11 224 YX10_copy := ⟨cbX10_copy, gw_of4 69 rfl rfl, gw_of3 185 rfl rfl, gw_of3 186 rfl rfl⟩
theorem cvL_90 : CV RL 90 YX11_sense := ⟨cbX11_sense, gw_of4 70 rfl rfl, gw_of4 71 rfl rfl, gw_of4 72 rfl rfl⟩
theorem cvL_94 : CV RL 94 YX11_gone := ⟨cbX11_gone, gw_of4 74 rfl rfl, gw_of4 75 rfl rfl, gw_of4 76 rfl rfl⟩
theorem cvL_107 : CV RL 107 YX11_kin := ⟨cbX11_kin, gw_of4 78 rfl rfl, gw_of4 79 rfl rfl, gw_of4 80 rfl rfl⟩
theorem cvX11_240 : CV RX11 240 YX0_allNeeds := ⟨cbX0_allNeeds, gw_of4 82 rfl rfl, gw_of4 83 rfl rfl, gw_of4 84 rfl rfl⟩
theorem cvL_111 : CV RL 111 YX11_hoard := ⟨cbX11_hoard, gw_of4 86 rfl rfl, gw_of4 87 rfl rfl, gw_of4 88 rfl rfl⟩
theorem cvX11_243 : CV RX11 243 YX0_shotsOfSort := ⟨cbX0_shotsOfSort, gw_of4 90 rfl rfl, gw_of4 91 rfl rfl, gw_of4 92 rfl rfl⟩
theorem cvL_115 : CV RL 115 YX11_longest := ⟨cbX11_longest, gw_of4 94 rfl rfl, gw_of4 95 rfl rfl, gw_of4 96 rfl rfl⟩
theorem cvX11_249 : CV RX11 249 YX0_unlikeFrom := ⟨cbX0_unlikeFrom, gw_of4 98 rfl rfl, gw_of4 99 rfl rfl, gw_of4 100 rfl rfl⟩
theorem mmX0_67 : Cond.methodLink RX0 67 Lib.Math.max.name ∈ gw := gw_of4 102 rfl rfl
theorem csX0_62 : CS RX0 62 YJ6_bitCount_0f7a4 := ⟨cbJ6_bitCount_0f7a4, gw_of4 105 rfl rfl, gw_of3 223 rfl rfl⟩
theorem mmX11_252 : Cond.methodLink RX11 252 Lib.Math.max.name ∈ gw := gw_of4 106 rfl rfl
theorem cvL_119 : CV RL 119 YX11_order := ⟨cbX11_order, gw_of4 107 rfl rfl, gw_of4 108 rfl rfl, gw_of4 109 rfl rfl⟩
theorem cvX11_257 : CV RX11 257 YX11_hallsAhead := ⟨cbX11_hallsAhead, gw_of4 111 rfl rfl, gw_of4 113 rfl rfl, gw_sel 34 (q := (yX11_hallsAhead, 14)) (by decide +kernel) (by decide +kernel)⟩
theorem cvX11_260 : CV RX11 260 YX6_find := ⟨cbX6_find, gw_of4 115 rfl rfl, gw_of4 116 rfl rfl, gw_of4 117 rfl rfl⟩
theorem cvX6_22 : CV RX6 22 YX6_search := ⟨cbX6_search, gw_of4 119 rfl rfl, gw_of4 121 rfl rfl, gw_sel 35 (q := (yX6_search, 3)) (by decide +kernel) (by decide +kernel)⟩
theorem cvX6_26 : CV RX6 26 YX6_keepPath := ⟨cbX6_keepPath, gw_of4 123 rfl rfl, gw_of4 125 rfl rfl, gw_sel 36 (q := (yX6_keepPath, 3)) (by decide +kernel) (by decide +kernel)⟩
theorem csX6_29 : CS RX6 29 YJ6_bitCount_0f7a4 := ⟨cbJ6_bitCount_0f7a4, gw_of4 127 rfl rfl, gw_of3 223 rfl rfl⟩
theorem cvX6_35 : CV RX6 35 YX0_minutesOf := ⟨cbX0_minutesOf, gw_of4 128 rfl rfl, gw_of3 202 rfl rfl, gw_of3 203 rfl rfl⟩
theorem cvX6_43 : CV RX6 43 YX0_takenOut := ⟨cbX0_takenOut, gw_of4 129 rfl rfl, gw_of3 161 rfl rfl, gw_of3 162 rfl rfl⟩
theorem cvL_123 : CV RL 123 YX11_ride := ⟨cbX11_ride, gw_of4 130 rfl rfl, gw_of4 131 rfl rfl, gw_of4 132 rfl rfl⟩
theorem cvX11_270 : CV RX11 270 YX11_fillRows := ⟨cbX11_fillRows, gw_of4 134 rfl rfl, gw_of4 136 rfl rfl, gw_sel 37 (q := (yX11_fillRows, 14)) (by decide +kernel) (by decide +kernel)⟩
theorem cvX11_273 : CV RX11 273 YX11_seenBy := ⟨cbX11_seenBy, gw_of4 138 rfl rfl, gw_of4 140 rfl rfl, gw_sel 38 (q := (yX11_seenBy, 14)) (by decide +kernel) (by decide +kernel)⟩
theorem cvL_127 : CV RL 127 YX11_other := ⟨cbX11_other, gw_of4 142 rfl rfl, gw_of4 143 rfl rfl, gw_of4 144 rfl rfl⟩
theorem cvX11_276 : CV RX11 276 YX10_drawn := ⟨cbX10_drawn, gw_of4 146 rfl rfl, gw_of4 147 rfl rfl, gw_of4 148 rfl rfl⟩
theorem cvX11_279 : CV RX11 279 YX0_isLonger := ⟨cbX0_isLonger, gw_of4 150 rfl rfl, gw_of4 151 rfl rfl, gw_of4 152 rfl rfl⟩
theorem cvX0_58 : CV RX0 58 YX0_minutesOf := ⟨cbX0_minutesOf, gw_of4 154 rfl rfl, gw_of3 202 rfl rfl, gw_of3 203 rfl rfl⟩
theorem cvL_131 : CV RL 131 YX11_mends := ⟨cbX11_mends, gw_of4 155 rfl rfl, gw_of4 156 rfl rfl, gw_of4 157 rfl rfl⟩
theorem cvL_135 : CV RL 135 YX11_where := ⟨cbX11_where, gw_of4 159 rfl rfl, gw_of4 160 rfl rfl, gw_of4 161 rfl rfl⟩
theorem cvX11_282 : CV RX11 282 YX10_holderOf := ⟨cbX10_holderOf, gw_of4 163 rfl rfl, gw_of4 164 rfl rfl, gw_of4 165 rfl rfl⟩
theorem cvL_139 : CV RL 139 YX11_taste := ⟨cbX11_taste, gw_of4 167 rfl rfl, gw_of4 168 rfl rfl, gw_of4 169 rfl rfl⟩
theorem cvX11_285 : CV RX11 285 YX0_hatedIn := ⟨cbX0_hatedIn, gw_of4 171 rfl rfl, gw_of3 165 rfl rfl, gw_of3 166 rfl rfl⟩
theorem cvL_143 : CV RL 143 YX11_mild := ⟨cbX11_mild, gw_of4 172 rfl rfl, gw_of4 173 rfl rfl, gw_of4 174 rfl rfl⟩
theorem cvL_147 : CV RL 147 YX11_see := ⟨cbX11_see, gw_of4 176 rfl rfl, gw_of4 177 rfl rfl, gw_of4 178 rfl rfl⟩
theorem cvX11_288 : CV RX11 288 YX8_add := ⟨cbX8_add, gw_of4 180 rfl rfl, gw_of4 181 rfl rfl, gw_of4 182 rfl rfl⟩
theorem cvL_152 : CV RL 152 YX11_halls := ⟨cbX11_halls, gw_of4 184 rfl rfl, gw_of4 185 rfl rfl, gw_of4 186 rfl rfl⟩
theorem cvX11_292 : CV RX11 292 YX8_fit := ⟨cbX8_fit, gw_of4 188 rfl rfl, gw_of4 189 rfl rfl, gw_of4 190 rfl rfl⟩
theorem cvL_156 : CV RL 156 YX11_ask := ⟨cbX11_ask, gw_of4 192 rfl rfl, gw_of4 193 rfl rfl, gw_of4 194 rfl rfl⟩
theorem cvX11_295 : CV RX11 295 YX11_halls := ⟨cbX11_halls, gw_of4 196 rfl rfl, gw_of4 185 rfl rfl, gw_of4 186 rfl rfl⟩
theorem cvX11_298 : CV RX11 298 YX11_greaterPart := ⟨cbX11_greaterPart, gw_of4 197 rfl rfl, gw_of4 199 rfl rfl, gw_sel 39 (q := (yX11_greaterPart, 14)) (by decide +kernel) (by decide +kernel)⟩
theorem cvL_164 : CV RL 164 YX11_share := ⟨cbX11_share, gw_of4 201 rfl rfl, gw_of4 202 rfl rfl, gw_of4 203 rfl rfl⟩
theorem cvL_168 : CV RL 168 YX11_tours := ⟨cbX11_tours, gw_of4 205 rfl rfl, gw_of4 206 rfl rfl, gw_of4 207 rfl rfl⟩
theorem cvX11_312 : CV RX11 312 YX1_begin := ⟨cbX1_begin, gw_of4 209 rfl rfl, gw_of4 210 rfl rfl, gw_of4 211 rfl rfl⟩
theorem cvX11_313 : CV RX11 313 YX1_below := ⟨cbX1_below, gw_of4 213 rfl rfl, gw_of4 214 rfl rfl, gw_of4 215 rfl rfl⟩
theorem kcX1_13 : Cond.constantLong RX1 13 (1103515245) ∈ gw := gw_of4 217 rfl rfl
theorem kcX1_15 : Cond.constantLong RX1 15 (12345) ∈ gw := gw_of4 218 rfl rfl
theorem kcX1_17 : Cond.constantLong RX1 17 (2147483648) ∈ gw := gw_of4 219 rfl rfl
theorem kcX1_19 : Cond.constantLong RX1 19 (65536) ∈ gw := gw_of4 220 rfl rfl
theorem cvX11_316 : CV RX11 316 YX10_showAt := ⟨cbX10_showAt, gw_of4 221 rfl rfl, gw_of3 196 rfl rfl, gw_of3 197 rfl rfl⟩
theorem cvX11_320 : CV RX11 320 YX11_giveBackByDraw := ⟨cbX11_giveBackByDraw, gw_of4 222 rfl rfl, gw_of4 224 rfl rfl, gw_sel 40 (q := (yX11_giveBackByDraw, 14)) (by decide +kernel) (by decide +kernel)⟩
theorem cvL_173 : CV RL 173 YX11_mark := ⟨cbX11_mark, gw_of4 226 rfl rfl, gw_of4 227 rfl rfl, gw_of4 228 rfl rfl⟩
theorem cvX11_323 : CV RX11 323 YX3_lay := ⟨cbX3_lay, gw_of4 230 rfl rfl, gw_of4 231 rfl rfl, gw_of4 232 rfl rfl⟩
theorem cvX3_30 : CV RX3 30 YX10_copy := ⟨cbX10_copy, gw_of4 234 rfl rfl, gw_of3 185 rfl rfl, gw_of3 186 rfl rfl⟩
theorem cvX3_34 : CV RX3 34 YX5_copy := ⟨cbX5_copy, gw_of4 235 rfl rfl, gw_of4 236 rfl rfl, gw_of4 237 rfl rfl⟩
theorem cvX3_37 : CV RX3 37 YX8_copy := ⟨cbX8_copy, gw_of4 239 rfl rfl, gw_of5 0 rfl rfl, gw_of5 1 rfl rfl⟩
theorem cvX11_331 : CV RX11 331 YX3_goBack := ⟨cbX3_goBack, gw_of5 3 rfl rfl, gw_of5 4 rfl rfl, gw_of5 5 rfl rfl⟩
theorem cvL_177 : CV RL 177 YX11_count := ⟨cbX11_count, gw_of5 7 rfl rfl, gw_of5 8 rfl rfl, gw_of5 9 rfl rfl⟩
theorem cvL_7 : CV RL 7 YX11_saves := ⟨cbX11_saves, gw_of5 15 rfl rfl, gw_of5 16 rfl rfl, gw_of5 17 rfl rfl⟩
theorem cvX11_237 : CV RX11 237 YX11_minutesTogether := ⟨cbX11_minutesTogether, gw_of5 84 rfl rfl, gw_of5 86 rfl rfl, gw_sel 42 (q := (yX11_minutesTogether, 14)) (by decide +kernel) (by decide +kernel)⟩
theorem cvL_15 : CV RL 15 YX11_rests := ⟨cbX11_rests, gw_of5 91 rfl rfl, gw_of5 92 rfl rfl, gw_of5 93 rfl rfl⟩
theorem csX11_301 : CS RX11 301 YX11_isBid := ⟨cbX11_isBid, gw_of5 95 rfl rfl, gw_of5 96 rfl rfl⟩
theorem csX11_306 : CS RX11 306 YX11_isAtRest := ⟨cbX11_isAtRest, gw_of5 99 rfl rfl, gw_of5 100 rfl rfl⟩
theorem csX11_351 : CS RX11 351 YX11_gain := ⟨cbX11_gain, gw_of5 102 rfl rfl, gw_of5 103 rfl rfl⟩
theorem cnL_20 : CN RL 20 12 := ⟨RX12, TX12, rfl, clX12, tyX12_ok, by decide +kernel, gw_of5 106 rfl rfl, gw_of5 107 rfl rfl, gw_of1 17 rfl rfl⟩
theorem klL_20 : Cond.classLink RL 20 RX12 ∈ gw := gw_of5 106 rfl rfl
theorem ciiL_22 : CI RL 22 YX12_init := ⟨cbX12_init, gw_of5 108 rfl rfl, gw_of5 109 rfl rfl, rfl, rfl⟩
theorem oiX12_1 : Cond.methodLink RX12 1 objectInit ∈ gw := gw_of5 111 rfl rfl
theorem cvX12_135 : CV RX12 135 YX12_fresh := ⟨cbX12_fresh, gw_of5 112 rfl rfl, gw_of5 114 rfl rfl, gw_sel 43 (q := (yX12_fresh, 58)) (by decide +kernel) (by decide +kernel)⟩
theorem cvX12_314 : CV RX12 314 YX12_allShots := ⟨cbX12_allShots, gw_of5 116 rfl rfl, gw_of5 118 rfl rfl, gw_sel 44 (q := (yX12_allShots, 58)) (by decide +kernel) (by decide +kernel)⟩
theorem fdX12_138 : FD RX12 138 12 0 .int false := ⟨RX12, TX12, rfl, clX12, tyX12_ok, nmX12, by decide, rfl, rfl, rfl, gw_of5 120 rfl rfl⟩
theorem fdX12_144 : FD RX12 144 12 1 .int false := ⟨RX12, TX12, rfl, clX12, tyX12_ok, nmX12, by decide, rfl, rfl, rfl, gw_of5 121 rfl rfl⟩
theorem fdX12_7 : FD RX12 7 12 2 (.array .int) true := ⟨RX12, TX12, rfl, clX12, tyX12_ok, nmX12, by decide, rfl, rfl, rfl, gw_of5 122 rfl rfl⟩
theorem fdX12_147 : FD RX12 147 12 3 .int false := ⟨RX12, TX12, rfl, clX12, tyX12_ok, nmX12, by decide, rfl, rfl, rfl, gw_of5 123 rfl rfl⟩
theorem fdX12_150 : FD RX12 150 12 4 .int false := ⟨RX12, TX12, rfl, clX12, tyX12_ok, nmX12, by decide, rfl, rfl, rfl, gw_of5 124 rfl rfl⟩
theorem fdX12_153 : FD RX12 153 12 5 .int false := ⟨RX12, TX12, rfl, clX12, tyX12_ok, nmX12, by decide, rfl, rfl, rfl, gw_of5 125 rfl rfl⟩
theorem fdX12_163 : FD RX12 163 12 6 .int false := ⟨RX12, TX12, rfl, clX12, tyX12_ok, nmX12, by decide, rfl, rfl, rfl, gw_of5 126 rfl rfl⟩
theorem fdX12_156 : FD RX12 156 12 7 .long false := ⟨RX12, TX12, rfl, clX12, tyX12_ok, nmX12, by decide, rfl, rfl, rfl, gw_of5 127 rfl rfl⟩
theorem fdX12_160 : FD RX12 160 12 8 .int false := ⟨RX12, TX12, rfl, clX12, tyX12_ok, nmX12, by decide, rfl, rfl, rfl, gw_of5 128 rfl rfl⟩
theorem fdX12_174 : FD RX12 174 12 9 .int false := ⟨RX12, TX12, rfl, clX12, tyX12_ok, nmX12, by decide, rfl, rfl, rfl, gw_of5 129 rfl rfl⟩
theorem fdX12_13 : FD RX12 13 12 10 (.array .int) true := ⟨RX12, TX12, rfl, clX12, tyX12_ok, nmX12, by decide, rfl, rfl, rfl, gw_of5 130 rfl rfl⟩
theorem fdX12_16 : FD RX12 16 12 11 (.array .long) true := ⟨RX12, TX12, rfl, clX12, tyX12_ok, nmX12, by decide, rfl, rfl, rfl, gw_of5 131 rfl rfl⟩
theorem fdX12_20 : FD RX12 20 12 12 (.array .long) true := ⟨RX12, TX12, rfl, clX12, tyX12_ok, nmX12, by decide, rfl, rfl, rfl, gw_of5 132 rfl rfl⟩
theorem fdX12_23 : FD RX12 23 12 13 (.array .int) true := ⟨RX12, TX12, rfl, clX12, tyX12_ok, nmX12, by decide, rfl, rfl, rfl, gw_of5 133 rfl rfl⟩
theorem fdX12_26 : FD RX12 26 12 14 (.array .int) true := ⟨RX12, TX12, rfl, clX12, tyX12_ok, nmX12, by decide, rfl, rfl, rfl, gw_of5 134 rfl rfl⟩
theorem fdX12_29 : FD RX12 29 12 15 (.array .int) true := ⟨RX12, TX12, rfl, clX12, tyX12_ok, nmX12, by decide, rfl, rfl, rfl, gw_of5 135 rfl rfl⟩
theorem fdX12_32 : FD RX12 32 12 16 (.array .int) true := ⟨RX12, TX12, rfl, clX12, tyX12_ok, nmX12, by decide, rfl, rfl, rfl, gw_of5 136 rfl rfl⟩
theorem fdX12_35 : FD RX12 35 12 17 (.array .int) true := ⟨RX12, TX12, rfl, clX12, tyX12_ok, nmX12, by decide, rfl, rfl, rfl, gw_of5 137 rfl rfl⟩
theorem fdX12_38 : FD RX12 38 12 18 (.array .int) true := ⟨RX12, TX12, rfl, clX12, tyX12_ok, nmX12, by decide, rfl, rfl, rfl, gw_of5 138 rfl rfl⟩
theorem fdX12_41 : FD RX12 41 12 19 (.array .int) true := ⟨RX12, TX12, rfl, clX12, tyX12_ok, nmX12, by decide, rfl, rfl, rfl, gw_of5 139 rfl rfl⟩
theorem fdX12_177 : FD RX12 177 12 20 .int false := ⟨RX12, TX12, rfl, clX12, tyX12_ok, nmX12, by decide, rfl, rfl, rfl, gw_of5 140 rfl rfl⟩
theorem fdX12_44 : FD RX12 44 12 21 (.array .int) true := ⟨RX12, TX12, rfl, clX12, tyX12_ok, nmX12, by decide, rfl, rfl, rfl, gw_of5 141 rfl rfl⟩
theorem fdX12_47 : FD RX12 47 12 22 (.array .boolean) true := ⟨RX12, TX12, rfl, clX12, tyX12_ok, nmX12, by decide, rfl, rfl, rfl, gw_of5 142 rfl rfl⟩
theorem fdX12_51 : FD RX12 51 12 23 (.array .int) true := ⟨RX12, TX12, rfl, clX12, tyX12_ok, nmX12, by decide, rfl, rfl, rfl, gw_of5 143 rfl rfl⟩
theorem fdX12_54 : FD RX12 54 12 24 (.array .int) true := ⟨RX12, TX12, rfl, clX12, tyX12_ok, nmX12, by decide, rfl, rfl, rfl, gw_of5 144 rfl rfl⟩
theorem fdX12_57 : FD RX12 57 12 25 (.array .int) true := ⟨RX12, TX12, rfl, clX12, tyX12_ok, nmX12, by decide, rfl, rfl, rfl, gw_of5 145 rfl rfl⟩
theorem fdX12_60 : FD RX12 60 12 26 (.array .int) true := ⟨RX12, TX12, rfl, clX12, tyX12_ok, nmX12, by decide, rfl, rfl, rfl, gw_of5 146 rfl rfl⟩
theorem fdX12_63 : FD RX12 63 12 27 (.array .int) true := ⟨RX12, TX12, rfl, clX12, tyX12_ok, nmX12, by decide, rfl, rfl, rfl, gw_of5 147 rfl rfl⟩
theorem fdX12_66 : FD RX12 66 12 28 (.array .int) true := ⟨RX12, TX12, rfl, clX12, tyX12_ok, nmX12, by decide, rfl, rfl, rfl, gw_of5 148 rfl rfl⟩
theorem fdX12_69 : FD RX12 69 12 29 (.array .int) true := ⟨RX12, TX12, rfl, clX12, tyX12_ok, nmX12, by decide, rfl, rfl, rfl, gw_of5 149 rfl rfl⟩
theorem fdX12_72 : FD RX12 72 12 30 (.array .int) true := ⟨RX12, TX12, rfl, clX12, tyX12_ok, nmX12, by decide, rfl, rfl, rfl, gw_of5 150 rfl rfl⟩
theorem fdX12_75 : FD RX12 75 12 31 (.array .int) true := ⟨RX12, TX12, rfl, clX12, tyX12_ok, nmX12, by decide, rfl, rfl, rfl, gw_of5 151 rfl rfl⟩
theorem fdX12_78 : FD RX12 78 12 32 (.array .int) true := ⟨RX12, TX12, rfl, clX12, tyX12_ok, nmX12, by decide, rfl, rfl, rfl, gw_of5 152 rfl rfl⟩
theorem fdX12_257 : FD RX12 257 12 33 .int false := ⟨RX12, TX12, rfl, clX12, tyX12_ok, nmX12, by decide, rfl, rfl, rfl, gw_of5 153 rfl rfl⟩
theorem fdX12_270 : FD RX12 270 12 34 .long false := ⟨RX12, TX12, rfl, clX12, tyX12_ok, nmX12, by decide, rfl, rfl, rfl, gw_of5 154 rfl rfl⟩
theorem fdX12_81 : FD RX12 81 12 35 (.array .int) true := ⟨RX12, TX12, rfl, clX12, tyX12_ok, nmX12, by decide, rfl, rfl, rfl, gw_of5 155 rfl rfl⟩
theorem fdX12_84 : FD RX12 84 12 36 (.array .int) true := ⟨RX12, TX12, rfl, clX12, tyX12_ok, nmX12, by decide, rfl, rfl, rfl, gw_of5 156 rfl rfl⟩
theorem fdX12_87 : FD RX12 87 12 37 (.array .int) true := ⟨RX12, TX12, rfl, clX12, tyX12_ok, nmX12, by decide, rfl, rfl, rfl, gw_of5 157 rfl rfl⟩
theorem fdX12_90 : FD RX12 90 12 38 (.array .int) true := ⟨RX12, TX12, rfl, clX12, tyX12_ok, nmX12, by decide, rfl, rfl, rfl, gw_of5 158 rfl rfl⟩
theorem fdX12_93 : FD RX12 93 12 39 (.array .int) true := ⟨RX12, TX12, rfl, clX12, tyX12_ok, nmX12, by decide, rfl, rfl, rfl, gw_of5 159 rfl rfl⟩
theorem fdX12_96 : FD RX12 96 12 40 (.array .int) true := ⟨RX12, TX12, rfl, clX12, tyX12_ok, nmX12, by decide, rfl, rfl, rfl, gw_of5 160 rfl rfl⟩
theorem fdX12_99 : FD RX12 99 12 41 (.array .int) true := ⟨RX12, TX12, rfl, clX12, tyX12_ok, nmX12, by decide, rfl, rfl, rfl, gw_of5 161 rfl rfl⟩
theorem fdX12_102 : FD RX12 102 12 42 (.array .boolean) true := ⟨RX12, TX12, rfl, clX12, tyX12_ok, nmX12, by decide, rfl, rfl, rfl, gw_of5 162 rfl rfl⟩
theorem fdX12_105 : FD RX12 105 12 43 (.array .int) true := ⟨RX12, TX12, rfl, clX12, tyX12_ok, nmX12, by decide, rfl, rfl, rfl, gw_of5 163 rfl rfl⟩
theorem fdX12_108 : FD RX12 108 12 44 (.array .int) true := ⟨RX12, TX12, rfl, clX12, tyX12_ok, nmX12, by decide, rfl, rfl, rfl, gw_of5 164 rfl rfl⟩
theorem fdX12_111 : FD RX12 111 12 45 (.array .int) true := ⟨RX12, TX12, rfl, clX12, tyX12_ok, nmX12, by decide, rfl, rfl, rfl, gw_of5 165 rfl rfl⟩
theorem fdX12_114 : FD RX12 114 12 46 (.array .int) true := ⟨RX12, TX12, rfl, clX12, tyX12_ok, nmX12, by decide, rfl, rfl, rfl, gw_of5 166 rfl rfl⟩
theorem fdX12_117 : FD RX12 117 12 47 (.array .int) true := ⟨RX12, TX12, rfl, clX12, tyX12_ok, nmX12, by decide, rfl, rfl, rfl, gw_of5 167 rfl rfl⟩
theorem fdX12_120 : FD RX12 120 12 48 (.array .boolean) true := ⟨RX12, TX12, rfl, clX12, tyX12_ok, nmX12, by decide, rfl, rfl, rfl, gw_of5 168 rfl rfl⟩
theorem fdX12_323 : FD RX12 323 12 49 .int false := ⟨RX12, TX12, rfl, clX12, tyX12_ok, nmX12, by decide, rfl, rfl, rfl, gw_of5 169 rfl rfl⟩
theorem fdX12_123 : FD RX12 123 12 50 (.array .int) true := ⟨RX12, TX12, rfl, clX12, tyX12_ok, nmX12, by decide, rfl, rfl, rfl, gw_of5 170 rfl rfl⟩
theorem fdX12_126 : FD RX12 126 12 51 (.array .int) true := ⟨RX12, TX12, rfl, clX12, tyX12_ok, nmX12, by decide, rfl, rfl, rfl, gw_of5 171 rfl rfl⟩
theorem fdX12_390 : FD RX12 390 12 52 .int false := ⟨RX12, TX12, rfl, clX12, tyX12_ok, nmX12, by decide, rfl, rfl, rfl, gw_of5 172 rfl rfl⟩
theorem fdX12_393 : FD RX12 393 12 53 .int false := ⟨RX12, TX12, rfl, clX12, tyX12_ok, nmX12, by decide, rfl, rfl, rfl, gw_of5 173 rfl rfl⟩
theorem fdX12_129 : FD RX12 129 12 54 (.array .int) true := ⟨RX12, TX12, rfl, clX12, tyX12_ok, nmX12, by decide, rfl, rfl, rfl, gw_of5 174 rfl rfl⟩
theorem fdX12_132 : FD RX12 132 12 55 (.array .int) true := ⟨RX12, TX12, rfl, clX12, tyX12_ok, nmX12, by decide, rfl, rfl, rfl, gw_of5 175 rfl rfl⟩
theorem fdX12_410 : FD RX12 410 12 56 .int false := ⟨RX12, TX12, rfl, clX12, tyX12_ok, nmX12, by decide, rfl, rfl, rfl, gw_of5 176 rfl rfl⟩
theorem fdX12_430 : FD RX12 430 12 57 .long false := ⟨RX12, TX12, rfl, clX12, tyX12_ok, nmX12, by decide, rfl, rfl, rfl, gw_of5 177 rfl rfl⟩
theorem cvL_104 : CV RL 104 YX12_thrown := ⟨cbX12_thrown, gw_of6 55 rfl rfl, gw_of6 56 rfl rfl, gw_of6 57 rfl rfl⟩
theorem cvL_29 : CV RL 29 YX12_feed := ⟨cbX12_feed, gw_of6 59 rfl rfl, gw_of6 60 rfl rfl, gw_of6 61 rfl rfl⟩
theorem kcX12_142 : Cond.constantLong RX12 142 (255) ∈ gw := gw_of6 63 rfl rfl
theorem cvL_34 : CV RL 34 YX12_county := ⟨cbX12_county, gw_of6 64 rfl rfl, gw_of6 65 rfl rfl, gw_of6 66 rfl rfl⟩
theorem cvX12_317 : CV RX12 317 YX12_readsAll := ⟨cbX12_readsAll, gw_of6 68 rfl rfl, gw_of6 70 rfl rfl, gw_sel 45 (q := (yX12_readsAll, 58)) (by decide +kernel) (by decide +kernel)⟩
theorem cvX12_291 : CV RX12 291 YX12_begins := ⟨cbX12_begins, gw_of6 72 rfl rfl, gw_of6 74 rfl rfl, gw_sel 46 (q := (yX12_begins, 58)) (by decide +kernel) (by decide +kernel)⟩
theorem cvX12_209 : CV RX12 209 YX12_nextToken := ⟨cbX12_nextToken, gw_of6 76 rfl rfl, gw_of6 78 rfl rfl, gw_sel 47 (q := (yX12_nextToken, 58)) (by decide +kernel) (by decide +kernel)⟩
theorem cvX12_166 : CV RX12 166 YX12_signAt := ⟨cbX12_signAt, gw_of6 80 rfl rfl, gw_of6 82 rfl rfl, gw_sel 48 (q := (yX12_signAt, 58)) (by decide +kernel) (by decide +kernel)⟩
theorem kcX12_170 : Cond.constantLong RX12 170 (27) ∈ gw := gw_of6 84 rfl rfl
theorem kcX12_172 : Cond.constantLong RX12 172 (96) ∈ gw := gw_of6 85 rfl rfl
theorem kcX12_225 : Cond.constantLong RX12 225 (380234) ∈ gw := gw_of6 86 rfl rfl
theorem cvX12_194 : CV RX12 194 YX12_isWord := ⟨cbX12_isWord, gw_of6 87 rfl rfl, gw_of6 89 rfl rfl, gw_sel 49 (q := (yX12_isWord, 58)) (by decide +kernel) (by decide +kernel)⟩
theorem cvX12_294 : CV RX12 294 YX12_readsShot := ⟨cbX12_readsShot, gw_of6 91 rfl rfl, gw_of6 93 rfl rfl, gw_sel 50 (q := (yX12_readsShot, 58)) (by decide +kernel) (by decide +kernel)⟩
theorem cvX12_202 : CV RX12 202 YX12_fails := ⟨cbX12_fails, gw_of6 95 rfl rfl, gw_of6 97 rfl rfl, gw_sel 51 (q := (yX12_fails, 58)) (by decide +kernel) (by decide +kernel)⟩
theorem cvX12_272 : CV RX12 272 YX12_needsNew := ⟨cbX12_needsNew, gw_of6 99 rfl rfl, gw_of6 101 rfl rfl, gw_sel 52 (q := (yX12_needsNew, 58)) (by decide +kernel) (by decide +kernel)⟩
theorem cvX12_260 : CV RX12 260 YX12_isKept := ⟨cbX12_isKept, gw_of6 103 rfl rfl, gw_of6 105 rfl rfl, gw_sel 53 (q := (yX12_isKept, 58)) (by decide +kernel) (by decide +kernel)⟩
theorem kcX12_227 : Cond.constantLong RX12 227 (385418) ∈ gw := gw_of6 107 rfl rfl
theorem kcX12_229 : Cond.constantLong RX12 229 (247516) ∈ gw := gw_of6 108 rfl rfl
theorem kcX12_231 : Cond.constantLong RX12 231 (7542361) ∈ gw := gw_of6 109 rfl rfl
theorem kcX12_233 : Cond.constantLong RX12 233 (158529) ∈ gw := gw_of6 110 rfl rfl
theorem kcX12_235 : Cond.constantLong RX12 235 (4285945) ∈ gw := gw_of6 111 rfl rfl
theorem kcX12_237 : Cond.constantLong RX12 237 (380237) ∈ gw := gw_of6 112 rfl rfl
theorem kcX12_239 : Cond.constantLong RX12 239 (144941) ∈ gw := gw_of6 113 rfl rfl
theorem kcX12_241 : Cond.constantLong RX12 241 (10983956) ∈ gw := gw_of6 114 rfl rfl
theorem kcX12_243 : Cond.constantLong RX12 243 (409469) ∈ gw := gw_of6 115 rfl rfl
theorem kcX12_245 : Cond.constantLong RX12 245 (8740238) ∈ gw := gw_of6 116 rfl rfl
theorem kcX12_247 : Cond.constantLong RX12 247 (220307) ∈ gw := gw_of6 117 rfl rfl
theorem kcX12_249 : Cond.constantLong RX12 249 (47329743) ∈ gw := gw_of6 118 rfl rfl
theorem kcX12_251 : Cond.constantLong RX12 251 (7096239) ∈ gw := gw_of6 119 rfl rfl
theorem kcX12_192 : Cond.constantLong RX12 192 (10631) ∈ gw := gw_of6 120 rfl rfl
theorem kcX12_212 : Cond.constantLong RX12 212 (1111) ∈ gw := gw_of6 121 rfl rfl
theorem kcX12_214 : Cond.constantLong RX12 214 (423) ∈ gw := gw_of6 122 rfl rfl
theorem cvX12_264 : CV RX12 264 YX12_shotNamed := ⟨cbX12_shotNamed, gw_of6 123 rfl rfl, gw_of6 125 rfl rfl, gw_sel 54 (q := (yX12_shotNamed, 58)) (by decide +kernel) (by decide +kernel)⟩
theorem cvX12_267 : CV RX12 267 YX12_hallNamed := ⟨cbX12_hallNamed, gw_of6 127 rfl rfl, gw_of6 129 rfl rfl, gw_sel 55 (q := (yX12_hallNamed, 58)) (by decide +kernel) (by decide +kernel)⟩
theorem cvX12_275 : CV RX12 275 YX12_needsWord := ⟨cbX12_needsWord, gw_of6 131 rfl rfl, gw_of6 133 rfl rfl, gw_sel 56 (q := (yX12_needsWord, 58)) (by decide +kernel) (by decide +kernel)⟩
theorem cvX12_278 : CV RX12 278 YX12_needsNumber := ⟨cbX12_needsNumber, gw_of6 135 rfl rfl, gw_of6 137 rfl rfl, gw_sel 57 (q := (yX12_needsNumber, 58)) (by decide +kernel) (by decide +kernel)⟩
theorem csX12_253 : CS RX12 253 YX12_within := ⟨cbX12_within, gw_of6 139 rfl rfl, gw_of6 140 rfl rfl⟩
theorem cvX12_282 : CV RX12 282 YX12_closes := ⟨cbX12_closes, gw_of6 142 rfl rfl, gw_of6 144 rfl rfl, gw_sel 58 (q := (yX12_closes, 58)) (by decide +kernel) (by decide +kernel)⟩
theorem cvX12_198 : CV RX12 198 YX12_isSign := ⟨cbX12_isSign, gw_of6 146 rfl rfl, gw_of6 148 rfl rfl, gw_sel 59 (q := (yX12_isSign, 58)) (by decide +kernel) (by decide +kernel)⟩
theorem cvX12_297 : CV RX12 297 YX12_readsNeeds := ⟨cbX12_readsNeeds, gw_of6 150 rfl rfl, gw_of6 152 rfl rfl, gw_sel 60 (q := (yX12_readsNeeds, 58)) (by decide +kernel) (by decide +kernel)⟩
theorem cvX12_285 : CV RX12 285 YX12_needsShot := ⟨cbX12_needsShot, gw_of6 154 rfl rfl, gw_of6 156 rfl rfl, gw_sel 61 (q := (yX12_needsShot, 58)) (by decide +kernel) (by decide +kernel)⟩
theorem cvX12_300 : CV RX12 300 YX12_readsHall := ⟨cbX12_readsHall, gw_of6 158 rfl rfl, gw_of6 160 rfl rfl, gw_sel 62 (q := (yX12_readsHall, 58)) (by decide +kernel) (by decide +kernel)⟩
theorem cvX12_288 : CV RX12 288 YX12_reads := ⟨cbX12_reads, gw_of6 162 rfl rfl, gw_of6 164 rfl rfl, gw_sel 63 (q := (yX12_reads, 58)) (by decide +kernel) (by decide +kernel)⟩
theorem cvX12_188 : CV RX12 188 YX12_fact := ⟨cbX12_fact, gw_of6 166 rfl rfl, gw_of6 168 rfl rfl, gw_sel 64 (q := (yX12_fact, 58)) (by decide +kernel) (by decide +kernel)⟩
theorem kcX12_180 : Cond.constantLong RX12 180 (223456) ∈ gw := gw_of6 170 rfl rfl
theorem kcX12_182 : Cond.constantLong RX12 182 (5173474771) ∈ gw := gw_of6 171 rfl rfl
theorem kcX12_184 : Cond.constantLong RX12 184 (8740067) ∈ gw := gw_of6 172 rfl rfl
theorem kcX12_186 : Cond.constantLong RX12 186 (692581) ∈ gw := gw_of6 173 rfl rfl
theorem cvX12_205 : CV RX12 205 YX12_puts := ⟨cbX12_puts, gw_of6 174 rfl rfl, gw_of6 176 rfl rfl, gw_sel 65 (q := (yX12_puts, 58)) (by decide +kernel) (by decide +kernel)⟩
theorem cvX12_320 : CV RX12 320 YX12_lays := ⟨cbX12_lays, gw_of6 178 rfl rfl, gw_of6 180 rfl rfl, gw_sel 66 (q := (yX12_lays, 58)) (by decide +kernel) (by decide +kernel)⟩
theorem csX12_303 : CS RX12 303 YX12_shifts := ⟨cbX12_shifts, gw_of6 182 rfl rfl, gw_of6 183 rfl rfl⟩
theorem csX12_307 : CS RX12 307 YX12_shiftsNames := ⟨cbX12_shiftsNames, gw_of6 185 rfl rfl, gw_of6 186 rfl rfl⟩
theorem cvL_38 : CV RL 38 YX12_round := ⟨cbX12_round, gw_of6 188 rfl rfl, gw_of6 189 rfl rfl, gw_of6 190 rfl rfl⟩
theorem cvX12_326 : CV RX12 326 YX12_readsLine := ⟨cbX12_readsLine, gw_of6 192 rfl rfl, gw_of6 194 rfl rfl, gw_sel 67 (q := (yX12_readsLine, 58)) (by decide +kernel) (by decide +kernel)⟩
theorem cvX12_311 : CV RX12 311 YX12_needsHall := ⟨cbX12_needsHall, gw_of6 196 rfl rfl, gw_of6 198 rfl rfl, gw_sel 68 (q := (yX12_needsHall, 58)) (by decide +kernel) (by decide +kernel)⟩
theorem cvX12_329 : CV RX12 329 YX12_laysLines := ⟨cbX12_laysLines, gw_of6 200 rfl rfl, gw_of6 202 rfl rfl, gw_sel 69 (q := (yX12_laysLines, 58)) (by decide +kernel) (by decide +kernel)⟩
theorem cvL_43 : CV RL 43 YX12_shot := ⟨cbX12_shot, gw_of6 204 rfl rfl, gw_of6 205 rfl rfl, gw_of6 206 rfl rfl⟩
theorem cvX12_347 : CV RX12 347 YX12_isShot := ⟨cbX12_isShot, gw_of6 208 rfl rfl, gw_of6 210 rfl rfl, gw_sel 70 (q := (yX12_isShot, 58)) (by decide +kernel) (by decide +kernel)⟩
theorem cvL_47 : CV RL 47 YX12_hall := ⟨cbX12_hall, gw_of6 212 rfl rfl, gw_of6 213 rfl rfl, gw_of6 214 rfl rfl⟩
theorem cvX12_350 : CV RX12 350 YX12_isHall := ⟨cbX12_isHall, gw_of6 216 rfl rfl, gw_of6 218 rfl rfl, gw_sel 71 (q := (yX12_isHall, 58)) (by decide +kernel) (by decide +kernel)⟩
theorem cvX12_353 : CV RX12 353 YX12_drawerOf := ⟨cbX12_drawerOf, gw_of6 220 rfl rfl, gw_of6 222 rfl rfl, gw_sel 72 (q := (yX12_drawerOf, 58)) (by decide +kernel) (by decide +kernel)⟩
theorem cvX12_356 : CV RX12 356 YX12_placeOf := ⟨cbX12_placeOf, gw_of6 224 rfl rfl, gw_of6 226 rfl rfl, gw_sel 73 (q := (yX12_placeOf, 58)) (by decide +kernel) (by decide +kernel)⟩
theorem cvX12_340 : CV RX12 340 YX12_takesOut := ⟨cbX12_takesOut, gw_of6 228 rfl rfl, gw_of6 230 rfl rfl, gw_sel 74 (q := (yX12_takesOut, 58)) (by decide +kernel) (by decide +kernel)⟩
theorem cvX12_336 : CV RX12 336 YX12_hates := ⟨cbX12_hates, gw_of6 232 rfl rfl, gw_of6 234 rfl rfl, gw_sel 75 (q := (yX12_hates, 58)) (by decide +kernel) (by decide +kernel)⟩
theorem cvX12_333 : CV RX12 333 YX12_worked := ⟨cbX12_worked, gw_of6 236 rfl rfl, gw_of6 238 rfl rfl, gw_sel 76 (q := (yX12_worked, 58)) (by decide +kernel) (by decide +kernel)⟩
theorem cvX12_219 : CV RX12 219 YX12_opens := ⟨cbX12_opens, gw_of7 0 rfl rfl, gw_of7 2 rfl rfl, gw_sel 77 (q := (yX12_opens, 58)) (by decide +kernel) (by decide +kernel)⟩
theorem cvX12_216 : CV RX12 216 YX12_sums := ⟨cbX12_sums, gw_of7 4 rfl rfl, gw_of7 6 rfl rfl, gw_sel 78 (q := (yX12_sums, 58)) (by decide +kernel) (by decide +kernel)⟩
theorem cvX12_222 : CV RX12 222 YX12_tests := ⟨cbX12_tests, gw_of7 8 rfl rfl, gw_of7 10 rfl rfl, gw_sel 79 (q := (yX12_tests, 58)) (by decide +kernel) (by decide +kernel)⟩
theorem cvL_51 : CV RL 51 YX12_show := ⟨cbX12_show, gw_of7 12 rfl rfl, gw_of7 13 rfl rfl, gw_of7 14 rfl rfl⟩
theorem cvX12_363 : CV RX12 363 YX12_keeps := ⟨cbX12_keeps, gw_of7 16 rfl rfl, gw_of7 18 rfl rfl, gw_sel 80 (q := (yX12_keeps, 58)) (by decide +kernel) (by decide +kernel)⟩
theorem csX12_359 : CS RX12 359 YX12_copies := ⟨cbX12_copies, gw_of7 20 rfl rfl, gw_of7 21 rfl rfl⟩
theorem cvX12_366 : CV RX12 366 YX12_shows := ⟨cbX12_shows, gw_of7 23 rfl rfl, gw_of7 25 rfl rfl, gw_sel 81 (q := (yX12_shows, 58)) (by decide +kernel) (by decide +kernel)⟩
theorem cvX12_344 : CV RX12 344 YX12_cuts := ⟨cbX12_cuts, gw_of7 27 rfl rfl, gw_of7 29 rfl rfl, gw_sel 82 (q := (yX12_cuts, 58)) (by decide +kernel) (by decide +kernel)⟩
theorem cvX12_369 : CV RX12 369 YX12_minutesOf := ⟨cbX12_minutesOf, gw_of7 31 rfl rfl, gw_of7 33 rfl rfl, gw_sel 83 (q := (yX12_minutesOf, 58)) (by decide +kernel) (by decide +kernel)⟩
theorem cvL_55 : CV RL 55 YX12_give := ⟨cbX12_give, gw_of7 35 rfl rfl, gw_of7 36 rfl rfl, gw_of7 37 rfl rfl⟩
theorem cvX12_372 : CV RX12 372 YX12_goesBack := ⟨cbX12_goesBack, gw_of7 39 rfl rfl, gw_of7 41 rfl rfl, gw_sel 84 (q := (yX12_goesBack, 58)) (by decide +kernel) (by decide +kernel)⟩
theorem csX12_375 : CS RX12 375 YX12_bits := ⟨cbX12_bits, gw_of7 43 rfl rfl, gw_of7 44 rfl rfl⟩
theorem cvL_60 : CV RL 60 YX12_trade := ⟨cbX12_trade, gw_of7 46 rfl rfl, gw_of7 47 rfl rfl, gw_of7 48 rfl rfl⟩
theorem cvL_64 : CV RL 64 YX12_turn := ⟨cbX12_turn, gw_of7 50 rfl rfl, gw_of7 51 rfl rfl, gw_of7 52 rfl rfl⟩
theorem cvX12_378 : CV RX12 378 YX12_turns := ⟨cbX12_turns, gw_of7 54 rfl rfl, gw_of7 56 rfl rfl, gw_sel 85 (q := (yX12_turns, 58)) (by decide +kernel) (by decide +kernel)⟩
theorem cvX12_381 : CV RX12 381 YX12_nextHall := ⟨cbX12_nextHall, gw_of7 58 rfl rfl, gw_of7 60 rfl rfl, gw_sel 86 (q := (yX12_nextHall, 58)) (by decide +kernel) (by decide +kernel)⟩
theorem cvL_69 : CV RL 69 YX12_undo := ⟨cbX12_undo, gw_of7 62 rfl rfl, gw_of7 63 rfl rfl, gw_of7 64 rfl rfl⟩
theorem cvL_73 : CV RL 73 YX12_judged := ⟨cbX12_judged, gw_of7 66 rfl rfl, gw_of7 67 rfl rfl, gw_of7 68 rfl rfl⟩
theorem cvX12_384 : CV RX12 384 YX12_goes := ⟨cbX12_goes, gw_of7 70 rfl rfl, gw_of7 72 rfl rfl, gw_sel 87 (q := (yX12_goes, 58)) (by decide +kernel) (by decide +kernel)⟩
theorem cvX12_387 : CV RX12 387 YX12_makesSense := ⟨cbX12_makesSense, gw_of7 74 rfl rfl, gw_of7 76 rfl rfl, gw_sel 88 (q := (yX12_makesSense, 58)) (by decide +kernel) (by decide +kernel)⟩
theorem cvL_77 : CV RL 77 YX12_shown := ⟨cbX12_shown, gw_of7 78 rfl rfl, gw_of7 79 rfl rfl, gw_of7 80 rfl rfl⟩
theorem cvX12_396 : CV RX12 396 YX12_goesOn := ⟨cbX12_goesOn, gw_of7 82 rfl rfl, gw_of7 84 rfl rfl, gw_sel 89 (q := (yX12_goesOn, 58)) (by decide +kernel) (by decide +kernel)⟩
theorem cvL_81 : CV RL 81 YX12_minutes := ⟨cbX12_minutes, gw_of7 86 rfl rfl, gw_of7 87 rfl rfl, gw_of7 88 rfl rfl⟩
theorem cvL_85 : CV RL 85 YX12_silly := ⟨cbX12_silly, gw_of7 90 rfl rfl, gw_of7 91 rfl rfl, gw_of7 92 rfl rfl⟩
theorem cvL_97 : CV RL 97 YX12_gone := ⟨cbX12_gone, gw_of7 94 rfl rfl, gw_of7 95 rfl rfl, gw_of7 96 rfl rfl⟩
theorem cvL_103 : CV RL 103 YX12_saves := ⟨cbX12_saves, gw_of7 98 rfl rfl, gw_of7 99 rfl rfl, gw_of7 100 rfl rfl⟩
theorem cvL_110 : CV RL 110 YX12_kin := ⟨cbX12_kin, gw_of7 102 rfl rfl, gw_of7 103 rfl rfl, gw_of7 104 rfl rfl⟩
theorem cvL_114 : CV RL 114 YX12_hoard := ⟨cbX12_hoard, gw_of7 106 rfl rfl, gw_of7 107 rfl rfl, gw_of7 108 rfl rfl⟩
theorem cvX12_399 : CV RX12 399 YX12_ofSort := ⟨cbX12_ofSort, gw_of7 110 rfl rfl, gw_of7 112 rfl rfl, gw_sel 90 (q := (yX12_ofSort, 58)) (by decide +kernel) (by decide +kernel)⟩
theorem cvL_118 : CV RL 118 YX12_longest := ⟨cbX12_longest, gw_of7 114 rfl rfl, gw_of7 115 rfl rfl, gw_of7 116 rfl rfl⟩
theorem cvX12_402 : CV RX12 402 YX12_unlikeFrom := ⟨cbX12_unlikeFrom, gw_of7 118 rfl rfl, gw_of7 120 rfl rfl, gw_sel 91 (q := (yX12_unlikeFrom, 58)) (by decide +kernel) (by decide +kernel)⟩
theorem mmX12_405 : Cond.methodLink RX12 405 Lib.Math.max.name ∈ gw := gw_of7 122 rfl rfl
theorem cvL_89 : CV RL 89 YX12_lasts := ⟨cbX12_lasts, gw_of7 123 rfl rfl, gw_of7 124 rfl rfl, gw_of7 125 rfl rfl⟩
theorem cvL_93 : CV RL 93 YX12_sense := ⟨cbX12_sense, gw_of7 127 rfl rfl, gw_of7 128 rfl rfl, gw_of7 129 rfl rfl⟩
theorem cvL_122 : CV RL 122 YX12_order := ⟨cbX12_order, gw_of7 131 rfl rfl, gw_of7 132 rfl rfl, gw_of7 133 rfl rfl⟩
theorem cvX12_413 : CV RX12 413 YX12_orders := ⟨cbX12_orders, gw_of7 135 rfl rfl, gw_of7 137 rfl rfl, gw_sel 92 (q := (yX12_orders, 58)) (by decide +kernel) (by decide +kernel)⟩
theorem cvL_126 : CV RL 126 YX12_ride := ⟨cbX12_ride, gw_of7 139 rfl rfl, gw_of7 140 rfl rfl, gw_of7 141 rfl rfl⟩
theorem cvL_130 : CV RL 130 YX12_other := ⟨cbX12_other, gw_of7 143 rfl rfl, gw_of7 144 rfl rfl, gw_of7 145 rfl rfl⟩
theorem cvX12_420 : CV RX12 420 YX12_otherFilm := ⟨cbX12_otherFilm, gw_of7 147 rfl rfl, gw_of7 149 rfl rfl, gw_sel 93 (q := (yX12_otherFilm, 58)) (by decide +kernel) (by decide +kernel)⟩
theorem cvX12_417 : CV RX12 417 YX12_inDrawers := ⟨cbX12_inDrawers, gw_of7 151 rfl rfl, gw_of7 153 rfl rfl, gw_sel 94 (q := (yX12_inDrawers, 58)) (by decide +kernel) (by decide +kernel)⟩
theorem cvL_134 : CV RL 134 YX12_mends := ⟨cbX12_mends, gw_of7 155 rfl rfl, gw_of7 156 rfl rfl, gw_of7 157 rfl rfl⟩
theorem cvL_138 : CV RL 138 YX12_where := ⟨cbX12_where, gw_of7 159 rfl rfl, gw_of7 160 rfl rfl, gw_of7 161 rfl rfl⟩
theorem cvL_142 : CV RL 142 YX12_taste := ⟨cbX12_taste, gw_of7 163 rfl rfl, gw_of7 164 rfl rfl, gw_of7 165 rfl rfl⟩
theorem cvL_146 : CV RL 146 YX12_mild := ⟨cbX12_mild, gw_of7 167 rfl rfl, gw_of7 168 rfl rfl, gw_of7 169 rfl rfl⟩
theorem cvL_151 : CV RL 151 YX12_see := ⟨cbX12_see, gw_of7 171 rfl rfl, gw_of7 172 rfl rfl, gw_of7 173 rfl rfl⟩
theorem cvL_155 : CV RL 155 YX12_halls := ⟨cbX12_halls, gw_of7 175 rfl rfl, gw_of7 176 rfl rfl, gw_of7 177 rfl rfl⟩
theorem cvX12_423 : CV RX12 423 YX12_hallsAsSeen := ⟨cbX12_hallsAsSeen, gw_of7 179 rfl rfl, gw_of7 181 rfl rfl, gw_sel 95 (q := (yX12_hallsAsSeen, 58)) (by decide +kernel) (by decide +kernel)⟩
theorem cvL_159 : CV RL 159 YX12_ask := ⟨cbX12_ask, gw_of7 183 rfl rfl, gw_of7 184 rfl rfl, gw_of7 185 rfl rfl⟩
theorem cvL_163 : CV RL 163 YX12_rests := ⟨cbX12_rests, gw_of7 187 rfl rfl, gw_of7 188 rfl rfl, gw_of7 189 rfl rfl⟩
theorem csX12_426 : CS RX12 426 YX12_getsBy := ⟨cbX12_getsBy, gw_of7 191 rfl rfl, gw_of7 192 rfl rfl⟩
theorem cvL_167 : CV RL 167 YX12_share := ⟨cbX12_share, gw_of7 194 rfl rfl, gw_of7 195 rfl rfl, gw_of7 196 rfl rfl⟩
theorem cvL_172 : CV RL 172 YX12_tours := ⟨cbX12_tours, gw_of7 198 rfl rfl, gw_of7 199 rfl rfl, gw_of7 200 rfl rfl⟩
theorem cvX12_441 : CV RX12 441 YX12_draws := ⟨cbX12_draws, gw_of7 202 rfl rfl, gw_of7 204 rfl rfl, gw_sel 96 (q := (yX12_draws, 58)) (by decide +kernel) (by decide +kernel)⟩
theorem kcX12_433 : Cond.constantLong RX12 433 (1103515245) ∈ gw := gw_of7 206 rfl rfl
theorem kcX12_435 : Cond.constantLong RX12 435 (12345) ∈ gw := gw_of7 207 rfl rfl
theorem kcX12_437 : Cond.constantLong RX12 437 (2147483648) ∈ gw := gw_of7 208 rfl rfl
theorem kcX12_439 : Cond.constantLong RX12 439 (65536) ∈ gw := gw_of7 209 rfl rfl
theorem cvX12_447 : CV RX12 447 YX12_givesSome := ⟨cbX12_givesSome, gw_of7 210 rfl rfl, gw_of7 212 rfl rfl, gw_sel 97 (q := (yX12_givesSome, 58)) (by decide +kernel) (by decide +kernel)⟩
theorem cvX12_444 : CV RX12 444 YX12_nth := ⟨cbX12_nth, gw_of7 214 rfl rfl, gw_of7 216 rfl rfl, gw_sel 98 (q := (yX12_nth, 58)) (by decide +kernel) (by decide +kernel)⟩
theorem cvL_176 : CV RL 176 YX12_mark := ⟨cbX12_mark, gw_of7 218 rfl rfl, gw_of7 219 rfl rfl, gw_of7 220 rfl rfl⟩
theorem cvX12_450 : CV RX12 450 YX12_laysSeen := ⟨cbX12_laysSeen, gw_of7 222 rfl rfl, gw_of7 224 rfl rfl, gw_sel 99 (q := (yX12_laysSeen, 58)) (by decide +kernel) (by decide +kernel)⟩
theorem cvL_180 : CV RL 180 YX12_count := ⟨cbX12_count, gw_of7 226 rfl rfl, gw_of7 227 rfl rfl, gw_of7 228 rfl rfl⟩
theorem kcL_23 : Cond.constantLong RL 23 (4294967295) ∈ gw := gw_of7 230 rfl rfl
theorem gk_max1 : Cond.static Lib.Math.max.name ∈ gw := gw_of4 103 rfl rfl
theorem gk_max2 : Cond.code Lib.Math.max.name Lib.Math.max.code 2 (some .int) ∈ gw := gw_of4 104 rfl rfl
theorem gk_min1 : Cond.static Lib.Math.min.name ∈ gw := gw_of3 189 rfl rfl
theorem gk_min2 : Cond.code Lib.Math.min.name Lib.Math.min.code 2 (some .int) ∈ gw := gw_of3 190 rfl rfl
theorem gk_math : Cond.initialized "java/lang/Math" ∈ gw := gw_of1 18 rfl rfl
