/-! THE METHODS STAND -/
theorem body_ok {me : ME} {pool : List (Instr × Nat × Nat)} (h1 : chkC (mBytes me) (mCode me)) (hp : ∀ q ∈ pool, LinkOK meths (mName me) q.1 q.2.1 q.2.2) (h : ((mCode me).all fun e => !isLk e.2.1 || pool.any (fun q => decide (q = (e.2.1, e.2.2.1, e.2.2.2.1)))) = true) : BodyOK meths me := ⟨h1, lk_all hp h⟩
set_option maxRecDepth 100000 in
theorem bo_X0_init : BodyOK meths eX0_init := body_ok (pool := plRX0i) chk_X0_init (plRX0i_ok _ rfl rfl) (by decide +kernel)
theorem mo_X0_init : MeOK meths eX0_init := ⟨bo_X0_init.1, bo_X0_init.2, (tb1 31 rfl rfl), by decide +kernel, ⟨by decide +kernel, by decide +kernel⟩, ⟨0, by decide +kernel, rfl⟩, fun _ => rfl⟩
set_option maxRecDepth 100000 in
theorem bo_X0_copyFrom : BodyOK meths eX0_copyFrom := body_ok (pool := plRX0) chk_X0_copyFrom (plRX0_ok _ rfl) (by decide +kernel)
theorem mo_X0_copyFrom : MeOK meths eX0_copyFrom := ⟨bo_X0_copyFrom.1, bo_X0_copyFrom.2, (tb1 206 rfl rfl), by decide +kernel, ⟨by decide +kernel, by decide +kernel⟩, ⟨1, by decide +kernel, rfl⟩, fun _ => rfl⟩
set_option maxRecDepth 100000 in
theorem bo_X0_has : BodyOK meths eX0_has := body_ok (pool := plRX0) chk_X0_has (plRX0_ok _ rfl) (by decide +kernel)
theorem mo_X0_has : MeOK meths eX0_has := ⟨bo_X0_has.1, bo_X0_has.2, (tb2 12 rfl rfl), by decide +kernel, ⟨by decide +kernel, by decide +kernel⟩, ⟨1, by decide +kernel, rfl⟩, fun _ => rfl⟩
set_option maxRecDepth 100000 in
theorem bo_X0_everybody : BodyOK meths eX0_everybody := body_ok (pool := plRX0) chk_X0_everybody (plRX0_ok _ rfl) (by decide +kernel)
theorem mo_X0_everybody : MeOK meths eX0_everybody := ⟨bo_X0_everybody.1, bo_X0_everybody.2, (tb2 200 rfl rfl), by decide +kernel, ⟨by decide +kernel, by decide +kernel⟩, ⟨0, by decide +kernel, rfl⟩, fun _ => rfl⟩
set_option maxRecDepth 100000 in
theorem bo_X0_others : BodyOK meths eX0_others := body_ok (pool := plRX0) chk_X0_others (plRX0_ok _ rfl) (by decide +kernel)
theorem mo_X0_others : MeOK meths eX0_others := ⟨bo_X0_others.1, bo_X0_others.2, (tb2 196 rfl rfl), by decide +kernel, ⟨by decide +kernel, by decide +kernel⟩, ⟨1, by decide +kernel, rfl⟩, fun _ => rfl⟩
set_option maxRecDepth 100000 in
theorem bo_X0_add : BodyOK meths eX0_add := body_ok (pool := plRX0) chk_X0_add (plRX0_ok _ rfl) (by decide +kernel)
theorem mo_X0_add : MeOK meths eX0_add := ⟨bo_X0_add.1, bo_X0_add.2, (tb2 5 rfl rfl), by decide +kernel, ⟨by decide +kernel, by decide +kernel⟩, ⟨3, by decide +kernel, rfl⟩, fun _ => rfl⟩
set_option maxRecDepth 100000 in
theorem bo_X0_word : BodyOK meths eX0_word := body_ok (pool := plRX0) chk_X0_word (plRX0_ok _ rfl) (by decide +kernel)
theorem mo_X0_word : MeOK meths eX0_word := ⟨bo_X0_word.1, bo_X0_word.2, (tb2 46 rfl rfl), by decide +kernel, ⟨by decide +kernel, by decide +kernel⟩, ⟨2, by decide +kernel, rfl⟩, fun _ => rfl⟩
set_option maxRecDepth 100000 in
theorem bo_X0_mean : BodyOK meths eX0_mean := body_ok (pool := plRX0) chk_X0_mean (plRX0_ok _ rfl) (by decide +kernel)
theorem mo_X0_mean : MeOK meths eX0_mean := ⟨bo_X0_mean.1, bo_X0_mean.2, (tb2 39 rfl rfl), by decide +kernel, ⟨by decide +kernel, by decide +kernel⟩, ⟨2, by decide +kernel, rfl⟩, fun _ => rfl⟩
set_option maxRecDepth 100000 in
theorem bo_X0_passWeek : BodyOK meths eX0_passWeek := body_ok (pool := plRX0) chk_X0_passWeek (plRX0_ok _ rfl) (by decide +kernel)
theorem mo_X0_passWeek : MeOK meths eX0_passWeek := ⟨bo_X0_passWeek.1, bo_X0_passWeek.2, (tb2 35 rfl rfl), by decide +kernel, ⟨by decide +kernel, by decide +kernel⟩, ⟨0, by decide +kernel, rfl⟩, fun _ => rfl⟩
set_option maxRecDepth 100000 in
theorem bo_X0_passWeeks : BodyOK meths eX0_passWeeks := body_ok (pool := plRX0) chk_X0_passWeeks (plRX0_ok _ rfl) (by decide +kernel)
theorem mo_X0_passWeeks : MeOK meths eX0_passWeeks := ⟨bo_X0_passWeeks.1, bo_X0_passWeeks.2, (tb2 151 rfl rfl), by decide +kernel, ⟨by decide +kernel, by decide +kernel⟩, ⟨1, by decide +kernel, rfl⟩, fun _ => rfl⟩
set_option maxRecDepth 100000 in
theorem bo_X0_unlike : BodyOK meths eX0_unlike := body_ok (pool := plRX0) chk_X0_unlike (plRX0_ok _ rfl) (by decide +kernel)
theorem mo_X0_unlike : MeOK meths eX0_unlike := ⟨bo_X0_unlike.1, bo_X0_unlike.2, (tb2 188 rfl rfl), by decide +kernel, ⟨by decide +kernel, by decide +kernel⟩, ⟨1, by decide +kernel, rfl⟩, fun _ => rfl⟩
set_option maxRecDepth 100000 in
theorem bo_X0_allErrors : BodyOK meths eX0_allErrors := body_ok (pool := plRX0) chk_X0_allErrors (plRX0_ok _ rfl) (by decide +kernel)
theorem mo_X0_allErrors : MeOK meths eX0_allErrors := ⟨bo_X0_allErrors.1, bo_X0_allErrors.2, (tb2 168 rfl rfl), by decide +kernel, ⟨by decide +kernel, by decide +kernel⟩, ⟨0, by decide +kernel, rfl⟩, fun _ => rfl⟩
set_option maxRecDepth 100000 in
theorem bo_X0_fooledBy : BodyOK meths eX0_fooledBy := body_ok (pool := plRX0) chk_X0_fooledBy (plRX0_ok _ rfl) (by decide +kernel)
theorem mo_X0_fooledBy : MeOK meths eX0_fooledBy := ⟨bo_X0_fooledBy.1, bo_X0_fooledBy.2, (tb2 160 rfl rfl), by decide +kernel, ⟨by decide +kernel, by decide +kernel⟩, ⟨1, by decide +kernel, rfl⟩, fun _ => rfl⟩
set_option maxRecDepth 100000 in
theorem bo_X0_apart : BodyOK meths eX0_apart := body_ok (pool := plRX0) chk_X0_apart (plRX0_ok _ rfl) (by decide +kernel)
theorem mo_X0_apart : MeOK meths eX0_apart := ⟨bo_X0_apart.1, bo_X0_apart.2, (tb3 4 rfl rfl), by decide +kernel, ⟨by decide +kernel, by decide +kernel⟩, ⟨2, by decide +kernel, rfl⟩, fun _ => rfl⟩
set_option maxRecDepth 100000 in
theorem bo_X0_width : BodyOK meths eX0_width := body_ok (pool := plRX0) chk_X0_width (plRX0_ok _ rfl) (by decide +kernel)
theorem mo_X0_width : MeOK meths eX0_width := ⟨bo_X0_width.1, bo_X0_width.2, (tb3 165 rfl rfl), by decide +kernel, ⟨by decide +kernel, by decide +kernel⟩, ⟨0, by decide +kernel, rfl⟩, fun _ => rfl⟩
set_option maxRecDepth 100000 in
theorem bo_X0_sources : BodyOK meths eX0_sources := body_ok (pool := plRX0) chk_X0_sources (plRX0_ok _ rfl) (by decide +kernel)
theorem mo_X0_sources : MeOK meths eX0_sources := ⟨bo_X0_sources.1, bo_X0_sources.2, (tb3 138 rfl rfl), by decide +kernel, ⟨by decide +kernel, by decide +kernel⟩, ⟨1, by decide +kernel, rfl⟩, fun _ => rfl⟩
set_option maxRecDepth 100000 in
theorem bo_X0_allAskEachOther : BodyOK meths eX0_allAskEachOther := body_ok (pool := plRX0) chk_X0_allAskEachOther (plRX0_ok _ rfl) (by decide +kernel)
theorem mo_X0_allAskEachOther : MeOK meths eX0_allAskEachOther := ⟨bo_X0_allAskEachOther.1, bo_X0_allAskEachOther.2, (tb3 194 rfl rfl), by decide +kernel, ⟨by decide +kernel, by decide +kernel⟩, ⟨1, by decide +kernel, rfl⟩, fun _ => rfl⟩
set_option maxRecDepth 100000 in
theorem bo_X0_untruth : BodyOK meths eX0_untruth := body_ok (pool := plRX0) chk_X0_untruth (plRX0_ok _ rfl) (by decide +kernel)
theorem mo_X0_untruth : MeOK meths eX0_untruth := ⟨bo_X0_untruth.1, bo_X0_untruth.2, (tb3 182 rfl rfl), by decide +kernel, ⟨by decide +kernel, by decide +kernel⟩, ⟨1, by decide +kernel, rfl⟩, fun _ => rfl⟩
set_option maxRecDepth 100000 in
theorem bo_X0_askByLot : BodyOK meths eX0_askByLot := body_ok (pool := plRX0) chk_X0_askByLot (plRX0_ok _ rfl) (by decide +kernel)
theorem mo_X0_askByLot : MeOK meths eX0_askByLot := ⟨bo_X0_askByLot.1, bo_X0_askByLot.2, (tb4 15 rfl rfl), by decide +kernel, ⟨by decide +kernel, by decide +kernel⟩, ⟨1, by decide +kernel, rfl⟩, fun _ => rfl⟩
set_option maxRecDepth 100000 in
theorem bo_X0_sum : BodyOK meths eX0_sum := body_ok (pool := plRX0) chk_X0_sum (plRX0_ok _ rfl) (by decide +kernel)
theorem mo_X0_sum : MeOK meths eX0_sum := ⟨bo_X0_sum.1, bo_X0_sum.2, (tb4 35 rfl rfl), by decide +kernel, ⟨by decide +kernel, by decide +kernel⟩, ⟨1, by decide +kernel, rfl⟩, fun _ => rfl⟩
set_option maxRecDepth 100000 in
theorem bo_X1_init : BodyOK meths eX1_init := body_ok (pool := plRX1i) chk_X1_init (plRX1i_ok _ rfl rfl) (by decide +kernel)
theorem mo_X1_init : MeOK meths eX1_init := ⟨bo_X1_init.1, bo_X1_init.2, (tb1 127 rfl rfl), by decide +kernel, ⟨by decide +kernel, by decide +kernel⟩, ⟨0, by decide +kernel, rfl⟩, fun _ => rfl⟩
set_option maxRecDepth 100000 in
theorem bo_X1_add : BodyOK meths eX1_add := body_ok (pool := plRX1) chk_X1_add (plRX1_ok _ rfl) (by decide +kernel)
theorem mo_X1_add : MeOK meths eX1_add := ⟨bo_X1_add.1, bo_X1_add.2, (tb1 194 rfl rfl), by decide +kernel, ⟨by decide +kernel, by decide +kernel⟩, ⟨1, by decide +kernel, rfl⟩, fun _ => rfl⟩
set_option maxRecDepth 100000 in
theorem bo_X1_read : BodyOK meths eX1_read := body_ok (pool := plRX1) chk_X1_read (plRX1_ok _ rfl) (by decide +kernel)
theorem mo_X1_read : MeOK meths eX1_read := ⟨bo_X1_read.1, bo_X1_read.2, (tb1 218 rfl rfl), by decide +kernel, ⟨by decide +kernel, by decide +kernel⟩, ⟨1, by decide +kernel, rfl⟩, fun _ => rfl⟩
theorem bo_X1_digitsBehind : BodyOK meths eX1_digitsBehind := body_ok (pool := []) chk_X1_digitsBehind (fun _ h => absurd h List.not_mem_nil) (by decide +kernel)
theorem mo_X1_digitsBehind : MeOK meths eX1_digitsBehind := ⟨bo_X1_digitsBehind.1, bo_X1_digitsBehind.2, (tb1 225 rfl rfl), by decide +kernel, ⟨by decide +kernel, by decide +kernel⟩, ⟨1, by decide +kernel, rfl⟩, fun h => absurd rfl h⟩
set_option maxRecDepth 100000 in
theorem bo_X1_faultOfForm : BodyOK meths eX1_faultOfForm := body_ok (pool := plRX1) chk_X1_faultOfForm (plRX1_ok _ rfl) (by decide +kernel)
theorem mo_X1_faultOfForm : MeOK meths eX1_faultOfForm := ⟨bo_X1_faultOfForm.1, bo_X1_faultOfForm.2, (tb1 222 rfl rfl), by decide +kernel, ⟨by decide +kernel, by decide +kernel⟩, ⟨0, by decide +kernel, rfl⟩, fun _ => rfl⟩
set_option maxRecDepth 100000 in
theorem bo_X1_digit : BodyOK meths eX1_digit := body_ok (pool := plRX1) chk_X1_digit (plRX1_ok _ rfl) (by decide +kernel)
theorem mo_X1_digit : MeOK meths eX1_digit := ⟨bo_X1_digit.1, bo_X1_digit.2, (tb1 237 rfl rfl), by decide +kernel, ⟨by decide +kernel, by decide +kernel⟩, ⟨1, by decide +kernel, rfl⟩, fun _ => rfl⟩
set_option maxRecDepth 100000 in
theorem bo_X1_twoDigits : BodyOK meths eX1_twoDigits := body_ok (pool := plRX1) chk_X1_twoDigits (plRX1_ok _ rfl) (by decide +kernel)
theorem mo_X1_twoDigits : MeOK meths eX1_twoDigits := ⟨bo_X1_twoDigits.1, bo_X1_twoDigits.2, (tb2 1 rfl rfl), by decide +kernel, ⟨by decide +kernel, by decide +kernel⟩, ⟨1, by decide +kernel, rfl⟩, fun _ => rfl⟩
set_option maxRecDepth 100000 in
theorem bo_X1_comesTrue : BodyOK meths eX1_comesTrue := body_ok (pool := plRX1) chk_X1_comesTrue (plRX1_ok _ rfl) (by decide +kernel)
theorem mo_X1_comesTrue : MeOK meths eX1_comesTrue := ⟨bo_X1_comesTrue.1, bo_X1_comesTrue.2, (tb1 229 rfl rfl), by decide +kernel, ⟨by decide +kernel, by decide +kernel⟩, ⟨2, by decide +kernel, rfl⟩, fun _ => rfl⟩
set_option maxRecDepth 100000 in
theorem bo_X1_onePersonMore : BodyOK meths eX1_onePersonMore := body_ok (pool := plRX1) chk_X1_onePersonMore (plRX1_ok _ rfl) (by decide +kernel)
theorem mo_X1_onePersonMore : MeOK meths eX1_onePersonMore := ⟨bo_X1_onePersonMore.1, bo_X1_onePersonMore.2, (tb1 233 rfl rfl), by decide +kernel, ⟨by decide +kernel, by decide +kernel⟩, ⟨2, by decide +kernel, rfl⟩, fun _ => rfl⟩
set_option maxRecDepth 100000 in
theorem bo_X1_oneAsks : BodyOK meths eX1_oneAsks := body_ok (pool := plRX1) chk_X1_oneAsks (plRX1_ok _ rfl) (by decide +kernel)
theorem mo_X1_oneAsks : MeOK meths eX1_oneAsks := ⟨bo_X1_oneAsks.1, bo_X1_oneAsks.2, (tb2 8 rfl rfl), by decide +kernel, ⟨by decide +kernel, by decide +kernel⟩, ⟨3, by decide +kernel, rfl⟩, fun h => absurd rfl h⟩
set_option maxRecDepth 100000 in
theorem bo_X1_oneBelieves : BodyOK meths eX1_oneBelieves := body_ok (pool := plRX1) chk_X1_oneBelieves (plRX1_ok _ rfl) (by decide +kernel)
theorem mo_X1_oneBelieves : MeOK meths eX1_oneBelieves := ⟨bo_X1_oneBelieves.1, bo_X1_oneBelieves.2, (tb2 15 rfl rfl), by decide +kernel, ⟨by decide +kernel, by decide +kernel⟩, ⟨3, by decide +kernel, rfl⟩, fun h => absurd rfl h⟩
set_option maxRecDepth 100000 in
theorem bo_X1_wayGoes : BodyOK meths eX1_wayGoes := body_ok (pool := plRX1) chk_X1_wayGoes (plRX1_ok _ rfl) (by decide +kernel)
theorem mo_X1_wayGoes : MeOK meths eX1_wayGoes := ⟨bo_X1_wayGoes.1, bo_X1_wayGoes.2, (tb2 18 rfl rfl), by decide +kernel, ⟨by decide +kernel, by decide +kernel⟩, ⟨3, by decide +kernel, rfl⟩, fun h => absurd rfl h⟩
set_option maxRecDepth 100000 in
theorem bo_X1_thingHangs : BodyOK meths eX1_thingHangs := body_ok (pool := plRX1) chk_X1_thingHangs (plRX1_ok _ rfl) (by decide +kernel)
theorem mo_X1_thingHangs : MeOK meths eX1_thingHangs := ⟨bo_X1_thingHangs.1, bo_X1_thingHangs.2, (tb2 28 rfl rfl), by decide +kernel, ⟨by decide +kernel, by decide +kernel⟩, ⟨3, by decide +kernel, rfl⟩, fun h => absurd rfl h⟩
set_option maxRecDepth 100000 in
theorem bo_X1_weeksPass : BodyOK meths eX1_weeksPass := body_ok (pool := plRX1) chk_X1_weeksPass (plRX1_ok _ rfl) (by decide +kernel)
theorem mo_X1_weeksPass : MeOK meths eX1_weeksPass := ⟨bo_X1_weeksPass.1, bo_X1_weeksPass.2, (tb2 31 rfl rfl), by decide +kernel, ⟨by decide +kernel, by decide +kernel⟩, ⟨2, by decide +kernel, rfl⟩, fun h => absurd rfl h⟩
set_option maxRecDepth 100000 in
theorem bo_X2_next : BodyOK meths eX2_next := body_ok (pool := plRX2) chk_X2_next (plRX2_ok _ rfl) (by decide +kernel)
theorem mo_X2_next : MeOK meths eX2_next := ⟨bo_X2_next.1, bo_X2_next.2, (tb3 79 rfl rfl), by decide +kernel, ⟨by decide +kernel, by decide +kernel⟩, ⟨2, by decide +kernel, rfl⟩, fun h => absurd rfl h⟩
set_option maxRecDepth 100000 in
theorem bo_X2_reach : BodyOK meths eX2_reach := body_ok (pool := plRX2) chk_X2_reach (plRX2_ok _ rfl) (by decide +kernel)
theorem mo_X2_reach : MeOK meths eX2_reach := ⟨bo_X2_reach.1, bo_X2_reach.2, (tb3 110 rfl rfl), by decide +kernel, ⟨by decide +kernel, by decide +kernel⟩, ⟨3, by decide +kernel, rfl⟩, fun h => absurd rfl h⟩
set_option maxRecDepth 100000 in
theorem bo_X2_distance : BodyOK meths eX2_distance := body_ok (pool := plRX2) chk_X2_distance (plRX2_ok _ rfl) (by decide +kernel)
theorem mo_X2_distance : MeOK meths eX2_distance := ⟨bo_X2_distance.1, bo_X2_distance.2, (tb3 75 rfl rfl), by decide +kernel, ⟨by decide +kernel, by decide +kernel⟩, ⟨3, by decide +kernel, rfl⟩, fun h => absurd rfl h⟩
set_option maxRecDepth 100000 in
theorem bo_X2_farthest : BodyOK meths eX2_farthest := body_ok (pool := plRX2) chk_X2_farthest (plRX2_ok _ rfl) (by decide +kernel)
theorem mo_X2_farthest : MeOK meths eX2_farthest := ⟨bo_X2_farthest.1, bo_X2_farthest.2, (tb3 230 rfl rfl), by decide +kernel, ⟨by decide +kernel, by decide +kernel⟩, ⟨2, by decide +kernel, rfl⟩, fun h => absurd rfl h⟩
set_option maxRecDepth 100000 in
theorem bo_X3_init : BodyOK meths eX3_init := body_ok (pool := plRX3i) chk_X3_init (plRX3i_ok _ rfl rfl) (by decide +kernel)
theorem mo_X3_init : MeOK meths eX3_init := ⟨bo_X3_init.1, bo_X3_init.2, (tb1 110 rfl rfl), by decide +kernel, ⟨by decide +kernel, by decide +kernel⟩, ⟨0, by decide +kernel, rfl⟩, fun _ => rfl⟩
set_option maxRecDepth 100000 in
theorem bo_X3_keep : BodyOK meths eX3_keep := body_ok (pool := plRX3) chk_X3_keep (plRX3_ok _ rfl) (by decide +kernel)
theorem mo_X3_keep : MeOK meths eX3_keep := ⟨bo_X3_keep.1, bo_X3_keep.2, (tb2 87 rfl rfl), by decide +kernel, ⟨by decide +kernel, by decide +kernel⟩, ⟨1, by decide +kernel, rfl⟩, fun _ => rfl⟩
set_option maxRecDepth 100000 in
theorem bo_X3_dropOldest : BodyOK meths eX3_dropOldest := body_ok (pool := plRX3) chk_X3_dropOldest (plRX3_ok _ rfl) (by decide +kernel)
theorem mo_X3_dropOldest : MeOK meths eX3_dropOldest := ⟨bo_X3_dropOldest.1, bo_X3_dropOldest.2, (tb2 91 rfl rfl), by decide +kernel, ⟨by decide +kernel, by decide +kernel⟩, ⟨0, by decide +kernel, rfl⟩, fun _ => rfl⟩
set_option maxRecDepth 100000 in
theorem bo_X3_takeBack : BodyOK meths eX3_takeBack := body_ok (pool := plRX3) chk_X3_takeBack (plRX3_ok _ rfl) (by decide +kernel)
theorem mo_X3_takeBack : MeOK meths eX3_takeBack := ⟨bo_X3_takeBack.1, bo_X3_takeBack.2, (tb2 129 rfl rfl), by decide +kernel, ⟨by decide +kernel, by decide +kernel⟩, ⟨1, by decide +kernel, rfl⟩, fun _ => rfl⟩
set_option maxRecDepth 100000 in
theorem bo_X4_init : BodyOK meths eX4_init := body_ok (pool := plRX4i) chk_X4_init (plRX4i_ok _ rfl rfl) (by decide +kernel)
theorem mo_X4_init : MeOK meths eX4_init := ⟨bo_X4_init.1, bo_X4_init.2, (tb1 78 rfl rfl), by decide +kernel, ⟨by decide +kernel, by decide +kernel⟩, ⟨0, by decide +kernel, rfl⟩, fun _ => rfl⟩
set_option maxRecDepth 100000 in
theorem bo_X4_copyFrom : BodyOK meths eX4_copyFrom := body_ok (pool := plRX4) chk_X4_copyFrom (plRX4_ok _ rfl) (by decide +kernel)
theorem mo_X4_copyFrom : MeOK meths eX4_copyFrom := ⟨bo_X4_copyFrom.1, bo_X4_copyFrom.2, (tb1 213 rfl rfl), by decide +kernel, ⟨by decide +kernel, by decide +kernel⟩, ⟨1, by decide +kernel, rfl⟩, fun _ => rfl⟩
set_option maxRecDepth 100000 in
theorem bo_X4_join : BodyOK meths eX4_join := body_ok (pool := plRX4) chk_X4_join (plRX4_ok _ rfl) (by decide +kernel)
theorem mo_X4_join : MeOK meths eX4_join := ⟨bo_X4_join.1, bo_X4_join.2, (tb2 25 rfl rfl), by decide +kernel, ⟨by decide +kernel, by decide +kernel⟩, ⟨2, by decide +kernel, rfl⟩, fun _ => rfl⟩
set_option maxRecDepth 100000 in
theorem bo_X4_countWays : BodyOK meths eX4_countWays := body_ok (pool := plRX4) chk_X4_countWays (plRX4_ok _ rfl) (by decide +kernel)
theorem mo_X4_countWays : MeOK meths eX4_countWays := ⟨bo_X4_countWays.1, bo_X4_countWays.2, (tb4 39 rfl rfl), by decide +kernel, ⟨by decide +kernel, by decide +kernel⟩, ⟨0, by decide +kernel, rfl⟩, fun _ => rfl⟩
set_option maxRecDepth 100000 in
theorem bo_X4_glancesAt : BodyOK meths eX4_glancesAt := body_ok (pool := plRX4) chk_X4_glancesAt (plRX4_ok _ rfl) (by decide +kernel)
theorem mo_X4_glancesAt : MeOK meths eX4_glancesAt := ⟨bo_X4_glancesAt.1, bo_X4_glancesAt.2, (tb3 93 rfl rfl), by decide +kernel, ⟨by decide +kernel, by decide +kernel⟩, ⟨1, by decide +kernel, rfl⟩, fun _ => rfl⟩
set_option maxRecDepth 100000 in
theorem bo_X4_bare : BodyOK meths eX4_bare := body_ok (pool := plRX4) chk_X4_bare (plRX4_ok _ rfl) (by decide +kernel)
theorem mo_X4_bare : MeOK meths eX4_bare := ⟨bo_X4_bare.1, bo_X4_bare.2, (tb3 107 rfl rfl), by decide +kernel, ⟨by decide +kernel, by decide +kernel⟩, ⟨0, by decide +kernel, rfl⟩, fun _ => rfl⟩
set_option maxRecDepth 100000 in
theorem bo_X4_route : BodyOK meths eX4_route := body_ok (pool := plRX4) chk_X4_route (plRX4_ok _ rfl) (by decide +kernel)
theorem mo_X4_route : MeOK meths eX4_route := ⟨bo_X4_route.1, bo_X4_route.2, (tb3 87 rfl rfl), by decide +kernel, ⟨by decide +kernel, by decide +kernel⟩, ⟨2, by decide +kernel, rfl⟩, fun _ => rfl⟩
set_option maxRecDepth 100000 in
theorem bo_X4_goOnFrom : BodyOK meths eX4_goOnFrom := body_ok (pool := plRX4) chk_X4_goOnFrom (plRX4_ok _ rfl) (by decide +kernel)
theorem mo_X4_goOnFrom : MeOK meths eX4_goOnFrom := ⟨bo_X4_goOnFrom.1, bo_X4_goOnFrom.2, (tb3 97 rfl rfl), by decide +kernel, ⟨by decide +kernel, by decide +kernel⟩, ⟨1, by decide +kernel, rfl⟩, fun _ => rfl⟩
set_option maxRecDepth 100000 in
theorem bo_X4_routeCovered : BodyOK meths eX4_routeCovered := body_ok (pool := plRX4) chk_X4_routeCovered (plRX4_ok _ rfl) (by decide +kernel)
theorem mo_X4_routeCovered : MeOK meths eX4_routeCovered := ⟨bo_X4_routeCovered.1, bo_X4_routeCovered.2, (tb3 118 rfl rfl), by decide +kernel, ⟨by decide +kernel, by decide +kernel⟩, ⟨3, by decide +kernel, rfl⟩, fun _ => rfl⟩
set_option maxRecDepth 100000 in
theorem bo_X5_init : BodyOK meths eX5_init := body_ok (pool := plRX5i) chk_X5_init (plRX5i_ok _ rfl rfl) (by decide +kernel)
theorem mo_X5_init : MeOK meths eX5_init := ⟨bo_X5_init.1, bo_X5_init.2, (tb1 25 rfl rfl), by decide +kernel, ⟨by decide +kernel, by decide +kernel⟩, ⟨0, by decide +kernel, rfl⟩, fun _ => rfl⟩
set_option maxRecDepth 100000 in
theorem bo_X5_copyFrom : BodyOK meths eX5_copyFrom := body_ok (pool := plRX5) chk_X5_copyFrom (plRX5_ok _ rfl) (by decide +kernel)
theorem mo_X5_copyFrom : MeOK meths eX5_copyFrom := ⟨bo_X5_copyFrom.1, bo_X5_copyFrom.2, (tb1 202 rfl rfl), by decide +kernel, ⟨by decide +kernel, by decide +kernel⟩, ⟨1, by decide +kernel, rfl⟩, fun _ => rfl⟩
set_option maxRecDepth 100000 in
theorem bo_X6_init : BodyOK meths eX6_init := body_ok (pool := plRX6i) chk_X6_init (plRX6i_ok _ rfl rfl) (by decide +kernel)
theorem mo_X6_init : MeOK meths eX6_init := ⟨bo_X6_init.1, bo_X6_init.2, (tb1 17 rfl rfl), by decide +kernel, ⟨by decide +kernel, by decide +kernel⟩, ⟨0, by decide +kernel, rfl⟩, fun _ => rfl⟩
set_option maxRecDepth 100000 in
theorem bo_X6_refuse : BodyOK meths eX6_refuse := body_ok (pool := plRX6) chk_X6_refuse (plRX6_ok _ rfl) (by decide +kernel)
theorem mo_X6_refuse : MeOK meths eX6_refuse := ⟨bo_X6_refuse.1, bo_X6_refuse.2, (tb1 190 rfl rfl), by decide +kernel, ⟨by decide +kernel, by decide +kernel⟩, ⟨1, by decide +kernel, rfl⟩, fun _ => rfl⟩
theorem bo_X6_first : BodyOK meths eX6_first := body_ok (pool := []) chk_X6_first (fun _ h => absurd h List.not_mem_nil) (by decide +kernel)
theorem mo_X6_first : MeOK meths eX6_first := ⟨bo_X6_first.1, bo_X6_first.2, (tb2 67 rfl rfl), by decide +kernel, ⟨by decide +kernel, by decide +kernel⟩, ⟨2, by decide +kernel, rfl⟩, fun h => absurd rfl h⟩
set_option maxRecDepth 100000 in
theorem bo_X6_noPerson : BodyOK meths eX6_noPerson := body_ok (pool := plRX6) chk_X6_noPerson (plRX6_ok _ rfl) (by decide +kernel)
theorem mo_X6_noPerson : MeOK meths eX6_noPerson := ⟨bo_X6_noPerson.1, bo_X6_noPerson.2, (tb2 60 rfl rfl), by decide +kernel, ⟨by decide +kernel, by decide +kernel⟩, ⟨1, by decide +kernel, rfl⟩, fun _ => rfl⟩
set_option maxRecDepth 100000 in
theorem bo_X6_noTwo : BodyOK meths eX6_noTwo := body_ok (pool := plRX6) chk_X6_noTwo (plRX6_ok _ rfl) (by decide +kernel)
theorem mo_X6_noTwo : MeOK meths eX6_noTwo := ⟨bo_X6_noTwo.1, bo_X6_noTwo.2, (tb2 83 rfl rfl), by decide +kernel, ⟨by decide +kernel, by decide +kernel⟩, ⟨2, by decide +kernel, rfl⟩, fun _ => rfl⟩
set_option maxRecDepth 100000 in
theorem bo_X6_noPlace : BodyOK meths eX6_noPlace := body_ok (pool := plRX6) chk_X6_noPlace (plRX6_ok _ rfl) (by decide +kernel)
theorem mo_X6_noPlace : MeOK meths eX6_noPlace := ⟨bo_X6_noPlace.1, bo_X6_noPlace.2, (tb2 116 rfl rfl), by decide +kernel, ⟨by decide +kernel, by decide +kernel⟩, ⟨1, by decide +kernel, rfl⟩, fun h => absurd rfl h⟩
set_option maxRecDepth 100000 in
theorem bo_X6_noPlaces : BodyOK meths eX6_noPlaces := body_ok (pool := plRX6) chk_X6_noPlaces (plRX6_ok _ rfl) (by decide +kernel)
theorem mo_X6_noPlaces : MeOK meths eX6_noPlaces := ⟨bo_X6_noPlaces.1, bo_X6_noPlaces.2, (tb2 107 rfl rfl), by decide +kernel, ⟨by decide +kernel, by decide +kernel⟩, ⟨2, by decide +kernel, rfl⟩, fun h => absurd rfl h⟩
theorem bo_X6_noChoice : BodyOK meths eX6_noChoice := body_ok (pool := []) chk_X6_noChoice (fun _ h => absurd h List.not_mem_nil) (by decide +kernel)
theorem mo_X6_noChoice : MeOK meths eX6_noChoice := ⟨bo_X6_noChoice.1, bo_X6_noChoice.2, (tb2 64 rfl rfl), by decide +kernel, ⟨by decide +kernel, by decide +kernel⟩, ⟨2, by decide +kernel, rfl⟩, fun h => absurd rfl h⟩
theorem bo_X6_outside : BodyOK meths eX6_outside := body_ok (pool := []) chk_X6_outside (fun _ h => absurd h List.not_mem_nil) (by decide +kernel)
theorem mo_X6_outside : MeOK meths eX6_outside := ⟨bo_X6_outside.1, bo_X6_outside.2, (tb1 186 rfl rfl), by decide +kernel, ⟨by decide +kernel, by decide +kernel⟩, ⟨3, by decide +kernel, rfl⟩, fun h => absurd rfl h⟩
theorem bo_X6_outside_ : BodyOK meths eX6_outside_ := body_ok (pool := []) chk_X6_outside_ (fun _ h => absurd h List.not_mem_nil) (by decide +kernel)
theorem mo_X6_outside_ : MeOK meths eX6_outside_ := ⟨bo_X6_outside_.1, bo_X6_outside_.2, (tb2 74 rfl rfl), by decide +kernel, ⟨by decide +kernel, by decide +kernel⟩, ⟨5, by decide +kernel, rfl⟩, fun h => absurd rfl h⟩
set_option maxRecDepth 100000 in
theorem bo_X6_asksNobody : BodyOK meths eX6_asksNobody := body_ok (pool := plRX6) chk_X6_asksNobody (plRX6_ok _ rfl) (by decide +kernel)
theorem mo_X6_asksNobody : MeOK meths eX6_asksNobody := ⟨bo_X6_asksNobody.1, bo_X6_asksNobody.2, (tb3 13 rfl rfl), by decide +kernel, ⟨by decide +kernel, by decide +kernel⟩, ⟨1, by decide +kernel, rfl⟩, fun _ => rfl⟩
set_option maxRecDepth 100000 in
theorem bo_X6_rowTooLong : BodyOK meths eX6_rowTooLong := body_ok (pool := plRX6) chk_X6_rowTooLong (plRX6_ok _ rfl) (by decide +kernel)
theorem mo_X6_rowTooLong : MeOK meths eX6_rowTooLong := ⟨bo_X6_rowTooLong.1, bo_X6_rowTooLong.2, (tb3 21 rfl rfl), by decide +kernel, ⟨by decide +kernel, by decide +kernel⟩, ⟨0, by decide +kernel, rfl⟩, fun _ => rfl⟩
theorem bo_X6_isPlace : BodyOK meths eX6_isPlace := body_ok (pool := []) chk_X6_isPlace (fun _ h => absurd h List.not_mem_nil) (by decide +kernel)
theorem mo_X6_isPlace : MeOK meths eX6_isPlace := ⟨bo_X6_isPlace.1, bo_X6_isPlace.2, (tb2 21 rfl rfl), by decide +kernel, ⟨by decide +kernel, by decide +kernel⟩, ⟨1, by decide +kernel, rfl⟩, fun h => absurd rfl h⟩
theorem bo_X6_holds : BodyOK meths eX6_holds := body_ok (pool := []) chk_X6_holds (fun _ h => absurd h List.not_mem_nil) (by decide +kernel)
theorem mo_X6_holds : MeOK meths eX6_holds := ⟨bo_X6_holds.1, bo_X6_holds.2, (tb2 42 rfl rfl), by decide +kernel, ⟨by decide +kernel, by decide +kernel⟩, ⟨2, by decide +kernel, rfl⟩, fun h => absurd rfl h⟩
set_option maxRecDepth 100000 in
theorem bo_X6_fewer : BodyOK meths eX6_fewer := body_ok (pool := plRX6) chk_X6_fewer (plRX6_ok _ rfl) (by decide +kernel)
theorem mo_X6_fewer : MeOK meths eX6_fewer := ⟨bo_X6_fewer.1, bo_X6_fewer.2, (tb2 204 rfl rfl), by decide +kernel, ⟨by decide +kernel, by decide +kernel⟩, ⟨2, by decide +kernel, rfl⟩, fun h => absurd rfl h⟩
set_option maxRecDepth 100000 in
theorem bo_X6_leastOf : BodyOK meths eX6_leastOf := body_ok (pool := plRX6) chk_X6_leastOf (plRX6_ok _ rfl) (by decide +kernel)
theorem mo_X6_leastOf : MeOK meths eX6_leastOf := ⟨bo_X6_leastOf.1, bo_X6_leastOf.2, (tb2 175 rfl rfl), by decide +kernel, ⟨by decide +kernel, by decide +kernel⟩, ⟨1, by decide +kernel, rfl⟩, fun h => absurd rfl h⟩
set_option maxRecDepth 100000 in
theorem bo_X6_ahead : BodyOK meths eX6_ahead := body_ok (pool := plRX6) chk_X6_ahead (plRX6_ok _ rfl) (by decide +kernel)
theorem mo_X6_ahead : MeOK meths eX6_ahead := ⟨bo_X6_ahead.1, bo_X6_ahead.2, (tb2 146 rfl rfl), by decide +kernel, ⟨by decide +kernel, by decide +kernel⟩, ⟨1, by decide +kernel, rfl⟩, fun _ => rfl⟩
set_option maxRecDepth 100000 in
theorem bo_X6_feed : BodyOK meths eX6_feed := body_ok (pool := plRX6) chk_X6_feed (plRX6_ok _ rfl) (by decide +kernel)
theorem mo_X6_feed : MeOK meths eX6_feed := ⟨bo_X6_feed.1, bo_X6_feed.2, (tb1 183 rfl rfl), by decide +kernel, ⟨by decide +kernel, by decide +kernel⟩, ⟨1, by decide +kernel, rfl⟩, fun _ => rfl⟩
set_option maxRecDepth 100000 in
theorem bo_X6_town : BodyOK meths eX6_town := body_ok (pool := plRX6) chk_X6_town (plRX6_ok _ rfl) (by decide +kernel)
theorem mo_X6_town : MeOK meths eX6_town := ⟨bo_X6_town.1, bo_X6_town.2, (tb1 198 rfl rfl), by decide +kernel, ⟨by decide +kernel, by decide +kernel⟩, ⟨0, by decide +kernel, rfl⟩, fun _ => rfl⟩
set_option maxRecDepth 100000 in
theorem bo_X6_person : BodyOK meths eX6_person := body_ok (pool := plRX6) chk_X6_person (plRX6_ok _ rfl) (by decide +kernel)
theorem mo_X6_person : MeOK meths eX6_person := ⟨bo_X6_person.1, bo_X6_person.2, (tb2 56 rfl rfl), by decide +kernel, ⟨by decide +kernel, by decide +kernel⟩, ⟨2, by decide +kernel, rfl⟩, fun _ => rfl⟩
set_option maxRecDepth 100000 in
theorem bo_X6_comes : BodyOK meths eX6_comes := body_ok (pool := plRX6) chk_X6_comes (plRX6_ok _ rfl) (by decide +kernel)
theorem mo_X6_comes : MeOK meths eX6_comes := ⟨bo_X6_comes.1, bo_X6_comes.2, (tb2 71 rfl rfl), by decide +kernel, ⟨by decide +kernel, by decide +kernel⟩, ⟨3, by decide +kernel, rfl⟩, fun _ => rfl⟩
set_option maxRecDepth 100000 in
theorem bo_X6_asks : BodyOK meths eX6_asks := body_ok (pool := plRX6) chk_X6_asks (plRX6_ok _ rfl) (by decide +kernel)
theorem mo_X6_asks : MeOK meths eX6_asks := ⟨bo_X6_asks.1, bo_X6_asks.2, (tb2 79 rfl rfl), by decide +kernel, ⟨by decide +kernel, by decide +kernel⟩, ⟨2, by decide +kernel, rfl⟩, fun _ => rfl⟩
set_option maxRecDepth 100000 in
theorem bo_X6_believes : BodyOK meths eX6_believes := body_ok (pool := plRX6) chk_X6_believes (plRX6_ok _ rfl) (by decide +kernel)
theorem mo_X6_believes : MeOK meths eX6_believes := ⟨bo_X6_believes.1, bo_X6_believes.2, (tb2 96 rfl rfl), by decide +kernel, ⟨by decide +kernel, by decide +kernel⟩, ⟨2, by decide +kernel, rfl⟩, fun _ => rfl⟩
set_option maxRecDepth 100000 in
theorem bo_X6_kind : BodyOK meths eX6_kind := body_ok (pool := plRX6) chk_X6_kind (plRX6_ok _ rfl) (by decide +kernel)
theorem mo_X6_kind : MeOK meths eX6_kind := ⟨bo_X6_kind.1, bo_X6_kind.2, (tb2 100 rfl rfl), by decide +kernel, ⟨by decide +kernel, by decide +kernel⟩, ⟨3, by decide +kernel, rfl⟩, fun _ => rfl⟩
set_option maxRecDepth 100000 in
theorem bo_X6_way : BodyOK meths eX6_way := body_ok (pool := plRX6) chk_X6_way (plRX6_ok _ rfl) (by decide +kernel)
theorem mo_X6_way : MeOK meths eX6_way := ⟨bo_X6_way.1, bo_X6_way.2, (tb2 104 rfl rfl), by decide +kernel, ⟨by decide +kernel, by decide +kernel⟩, ⟨2, by decide +kernel, rfl⟩, fun _ => rfl⟩
set_option maxRecDepth 100000 in
theorem bo_X6_hangs : BodyOK meths eX6_hangs := body_ok (pool := plRX6) chk_X6_hangs (plRX6_ok _ rfl) (by decide +kernel)
theorem mo_X6_hangs : MeOK meths eX6_hangs := ⟨bo_X6_hangs.1, bo_X6_hangs.2, (tb2 113 rfl rfl), by decide +kernel, ⟨by decide +kernel, by decide +kernel⟩, ⟨2, by decide +kernel, rfl⟩, fun _ => rfl⟩
set_option maxRecDepth 100000 in
theorem bo_X6_week : BodyOK meths eX6_week := body_ok (pool := plRX6) chk_X6_week (plRX6_ok _ rfl) (by decide +kernel)
theorem mo_X6_week : MeOK meths eX6_week := ⟨bo_X6_week.1, bo_X6_week.2, (tb2 120 rfl rfl), by decide +kernel, ⟨by decide +kernel, by decide +kernel⟩, ⟨0, by decide +kernel, rfl⟩, fun _ => rfl⟩
set_option maxRecDepth 100000 in
theorem bo_X6_back : BodyOK meths eX6_back := body_ok (pool := plRX6) chk_X6_back (plRX6_ok _ rfl) (by decide +kernel)
theorem mo_X6_back : MeOK meths eX6_back := ⟨bo_X6_back.1, bo_X6_back.2, (tb2 125 rfl rfl), by decide +kernel, ⟨by decide +kernel, by decide +kernel⟩, ⟨0, by decide +kernel, rfl⟩, fun _ => rfl⟩
set_option maxRecDepth 100000 in
theorem bo_X6_says : BodyOK meths eX6_says := body_ok (pool := plRX6) chk_X6_says (plRX6_ok _ rfl) (by decide +kernel)
theorem mo_X6_says : MeOK meths eX6_says := ⟨bo_X6_says.1, bo_X6_says.2, (tb2 133 rfl rfl), by decide +kernel, ⟨by decide +kernel, by decide +kernel⟩, ⟨2, by decide +kernel, rfl⟩, fun _ => rfl⟩
set_option maxRecDepth 100000 in
theorem bo_X6_saysOf : BodyOK meths eX6_saysOf := body_ok (pool := plRX6) chk_X6_saysOf (plRX6_ok _ rfl) (by decide +kernel)
theorem mo_X6_saysOf : MeOK meths eX6_saysOf := ⟨bo_X6_saysOf.1, bo_X6_saysOf.2, (tb2 138 rfl rfl), by decide +kernel, ⟨by decide +kernel, by decide +kernel⟩, ⟨2, by decide +kernel, rfl⟩, fun _ => rfl⟩
set_option maxRecDepth 100000 in
theorem bo_X6_belief : BodyOK meths eX6_belief := body_ok (pool := plRX6) chk_X6_belief (plRX6_ok _ rfl) (by decide +kernel)
theorem mo_X6_belief : MeOK meths eX6_belief := ⟨bo_X6_belief.1, bo_X6_belief.2, (tb2 142 rfl rfl), by decide +kernel, ⟨by decide +kernel, by decide +kernel⟩, ⟨2, by decide +kernel, rfl⟩, fun _ => rfl⟩
set_option maxRecDepth 100000 in
theorem bo_X6_fooled : BodyOK meths eX6_fooled := body_ok (pool := plRX6) chk_X6_fooled (plRX6_ok _ rfl) (by decide +kernel)
theorem mo_X6_fooled : MeOK meths eX6_fooled := ⟨bo_X6_fooled.1, bo_X6_fooled.2, (tb2 156 rfl rfl), by decide +kernel, ⟨by decide +kernel, by decide +kernel⟩, ⟨2, by decide +kernel, rfl⟩, fun _ => rfl⟩
set_option maxRecDepth 100000 in
theorem bo_X6_error : BodyOK meths eX6_error := body_ok (pool := plRX6) chk_X6_error (plRX6_ok _ rfl) (by decide +kernel)
theorem mo_X6_error : MeOK meths eX6_error := ⟨bo_X6_error.1, bo_X6_error.2, (tb2 164 rfl rfl), by decide +kernel, ⟨by decide +kernel, by decide +kernel⟩, ⟨1, by decide +kernel, rfl⟩, fun _ => rfl⟩
set_option maxRecDepth 100000 in
theorem bo_X6_clash : BodyOK meths eX6_clash := body_ok (pool := plRX6) chk_X6_clash (plRX6_ok _ rfl) (by decide +kernel)
theorem mo_X6_clash : MeOK meths eX6_clash := ⟨bo_X6_clash.1, bo_X6_clash.2, (tb2 172 rfl rfl), by decide +kernel, ⟨by decide +kernel, by decide +kernel⟩, ⟨2, by decide +kernel, rfl⟩, fun _ => rfl⟩
set_option maxRecDepth 100000 in
theorem bo_X6_settles : BodyOK meths eX6_settles := body_ok (pool := plRX6) chk_X6_settles (plRX6_ok _ rfl) (by decide +kernel)
theorem mo_X6_settles : MeOK meths eX6_settles := ⟨bo_X6_settles.1, bo_X6_settles.2, (tb2 180 rfl rfl), by decide +kernel, ⟨by decide +kernel, by decide +kernel⟩, ⟨0, by decide +kernel, rfl⟩, fun _ => rfl⟩
set_option maxRecDepth 100000 in
theorem bo_X6_round : BodyOK meths eX6_round := body_ok (pool := plRX6) chk_X6_round (plRX6_ok _ rfl) (by decide +kernel)
theorem mo_X6_round : MeOK meths eX6_round := ⟨bo_X6_round.1, bo_X6_round.2, (tb2 184 rfl rfl), by decide +kernel, ⟨by decide +kernel, by decide +kernel⟩, ⟨0, by decide +kernel, rfl⟩, fun _ => rfl⟩
set_option maxRecDepth 100000 in
theorem bo_X6_knows : BodyOK meths eX6_knows := body_ok (pool := plRX6) chk_X6_knows (plRX6_ok _ rfl) (by decide +kernel)
theorem mo_X6_knows : MeOK meths eX6_knows := ⟨bo_X6_knows.1, bo_X6_knows.2, (tb2 192 rfl rfl), by decide +kernel, ⟨by decide +kernel, by decide +kernel⟩, ⟨1, by decide +kernel, rfl⟩, fun _ => rfl⟩
set_option maxRecDepth 100000 in
theorem bo_X6_nearest : BodyOK meths eX6_nearest := body_ok (pool := plRX6) chk_X6_nearest (plRX6_ok _ rfl) (by decide +kernel)
theorem mo_X6_nearest : MeOK meths eX6_nearest := ⟨bo_X6_nearest.1, bo_X6_nearest.2, (tb2 214 rfl rfl), by decide +kernel, ⟨by decide +kernel, by decide +kernel⟩, ⟨2, by decide +kernel, rfl⟩, fun _ => rfl⟩
set_option maxRecDepth 100000 in
theorem bo_X6_errorBySet : BodyOK meths eX6_errorBySet := body_ok (pool := plRX6) chk_X6_errorBySet (plRX6_ok _ rfl) (by decide +kernel)
theorem mo_X6_errorBySet : MeOK meths eX6_errorBySet := ⟨bo_X6_errorBySet.1, bo_X6_errorBySet.2, (tb2 218 rfl rfl), by decide +kernel, ⟨by decide +kernel, by decide +kernel⟩, ⟨2, by decide +kernel, rfl⟩, fun _ => rfl⟩
set_option maxRecDepth 100000 in
theorem bo_X6_fair : BodyOK meths eX6_fair := body_ok (pool := plRX6) chk_X6_fair (plRX6_ok _ rfl) (by decide +kernel)
theorem mo_X6_fair : MeOK meths eX6_fair := ⟨bo_X6_fair.1, bo_X6_fair.2, (tb2 223 rfl rfl), by decide +kernel, ⟨by decide +kernel, by decide +kernel⟩, ⟨3, by decide +kernel, rfl⟩, fun _ => rfl⟩
set_option maxRecDepth 100000 in
theorem bo_X6_worth : BodyOK meths eX6_worth := body_ok (pool := plRX6) chk_X6_worth (plRX6_ok _ rfl) (by decide +kernel)
theorem mo_X6_worth : MeOK meths eX6_worth := ⟨bo_X6_worth.1, bo_X6_worth.2, (tb2 227 rfl rfl), by decide +kernel, ⟨by decide +kernel, by decide +kernel⟩, ⟨2, by decide +kernel, rfl⟩, fun _ => rfl⟩
set_option maxRecDepth 100000 in
theorem bo_X6_newEar : BodyOK meths eX6_newEar := body_ok (pool := plRX6) chk_X6_newEar (plRX6_ok _ rfl) (by decide +kernel)
theorem mo_X6_newEar : MeOK meths eX6_newEar := ⟨bo_X6_newEar.1, bo_X6_newEar.2, (tb2 232 rfl rfl), by decide +kernel, ⟨by decide +kernel, by decide +kernel⟩, ⟨1, by decide +kernel, rfl⟩, fun _ => rfl⟩
set_option maxRecDepth 100000 in
theorem bo_X6_errorsWithEar : BodyOK meths eX6_errorsWithEar := body_ok (pool := plRX6) chk_X6_errorsWithEar (plRX6_ok _ rfl) (by decide +kernel)
theorem mo_X6_errorsWithEar : MeOK meths eX6_errorsWithEar := ⟨bo_X6_errorsWithEar.1, bo_X6_errorsWithEar.2, (tb2 236 rfl rfl), by decide +kernel, ⟨by decide +kernel, by decide +kernel⟩, ⟨3, by decide +kernel, rfl⟩, fun _ => rfl⟩
set_option maxRecDepth 100000 in
theorem bo_X6_sisters : BodyOK meths eX6_sisters := body_ok (pool := plRX6) chk_X6_sisters (plRX6_ok _ rfl) (by decide +kernel)
theorem mo_X6_sisters : MeOK meths eX6_sisters := ⟨bo_X6_sisters.1, bo_X6_sisters.2, (tb3 0 rfl rfl), by decide +kernel, ⟨by decide +kernel, by decide +kernel⟩, ⟨4, by decide +kernel, rfl⟩, fun _ => rfl⟩
set_option maxRecDepth 100000 in
theorem bo_X6_cheat : BodyOK meths eX6_cheat := body_ok (pool := plRX6) chk_X6_cheat (plRX6_ok _ rfl) (by decide +kernel)
theorem mo_X6_cheat : MeOK meths eX6_cheat := ⟨bo_X6_cheat.1, bo_X6_cheat.2, (tb3 9 rfl rfl), by decide +kernel, ⟨by decide +kernel, by decide +kernel⟩, ⟨3, by decide +kernel, rfl⟩, fun _ => rfl⟩
set_option maxRecDepth 100000 in
theorem bo_X6_fitsRow : BodyOK meths eX6_fitsRow := body_ok (pool := plRX6) chk_X6_fitsRow (plRX6_ok _ rfl) (by decide +kernel)
theorem mo_X6_fitsRow : MeOK meths eX6_fitsRow := ⟨bo_X6_fitsRow.1, bo_X6_fitsRow.2, (tb3 29 rfl rfl), by decide +kernel, ⟨by decide +kernel, by decide +kernel⟩, ⟨1, by decide +kernel, rfl⟩, fun _ => rfl⟩
set_option maxRecDepth 100000 in
theorem bo_X6_thief : BodyOK meths eX6_thief := body_ok (pool := plRX6) chk_X6_thief (plRX6_ok _ rfl) (by decide +kernel)
theorem mo_X6_thief : MeOK meths eX6_thief := ⟨bo_X6_thief.1, bo_X6_thief.2, (tb3 17 rfl rfl), by decide +kernel, ⟨by decide +kernel, by decide +kernel⟩, ⟨1, by decide +kernel, rfl⟩, fun _ => rfl⟩
set_option maxRecDepth 100000 in
theorem bo_X6_suspects : BodyOK meths eX6_suspects := body_ok (pool := plRX6) chk_X6_suspects (plRX6_ok _ rfl) (by decide +kernel)
theorem mo_X6_suspects : MeOK meths eX6_suspects := ⟨bo_X6_suspects.1, bo_X6_suspects.2, (tb3 25 rfl rfl), by decide +kernel, ⟨by decide +kernel, by decide +kernel⟩, ⟨0, by decide +kernel, rfl⟩, fun _ => rfl⟩
set_option maxRecDepth 100000 in
theorem bo_X6_tellsMost : BodyOK meths eX6_tellsMost := body_ok (pool := plRX6) chk_X6_tellsMost (plRX6_ok _ rfl) (by decide +kernel)
theorem mo_X6_tellsMost : MeOK meths eX6_tellsMost := ⟨bo_X6_tellsMost.1, bo_X6_tellsMost.2, (tb3 33 rfl rfl), by decide +kernel, ⟨by decide +kernel, by decide +kernel⟩, ⟨1, by decide +kernel, rfl⟩, fun _ => rfl⟩
set_option maxRecDepth 100000 in
theorem bo_X6_kindsOfWords : BodyOK meths eX6_kindsOfWords := body_ok (pool := plRX6) chk_X6_kindsOfWords (plRX6_ok _ rfl) (by decide +kernel)
theorem mo_X6_kindsOfWords : MeOK meths eX6_kindsOfWords := ⟨bo_X6_kindsOfWords.1, bo_X6_kindsOfWords.2, (tb3 37 rfl rfl), by decide +kernel, ⟨by decide +kernel, by decide +kernel⟩, ⟨1, by decide +kernel, rfl⟩, fun _ => rfl⟩
set_option maxRecDepth 100000 in
theorem bo_X6_photos : BodyOK meths eX6_photos := body_ok (pool := plRX6) chk_X6_photos (plRX6_ok _ rfl) (by decide +kernel)
theorem mo_X6_photos : MeOK meths eX6_photos := ⟨bo_X6_photos.1, bo_X6_photos.2, (tb3 44 rfl rfl), by decide +kernel, ⟨by decide +kernel, by decide +kernel⟩, ⟨1, by decide +kernel, rfl⟩, fun _ => rfl⟩
set_option maxRecDepth 100000 in
theorem bo_X6_fillCosts : BodyOK meths eX6_fillCosts := body_ok (pool := plRX6) chk_X6_fillCosts (plRX6_ok _ rfl) (by decide +kernel)
theorem mo_X6_fillCosts : MeOK meths eX6_fillCosts := ⟨bo_X6_fillCosts.1, bo_X6_fillCosts.2, (tb3 48 rfl rfl), by decide +kernel, ⟨by decide +kernel, by decide +kernel⟩, ⟨0, by decide +kernel, rfl⟩, fun _ => rfl⟩
set_option maxRecDepth 100000 in
theorem bo_X6_costWith : BodyOK meths eX6_costWith := body_ok (pool := plRX6) chk_X6_costWith (plRX6_ok _ rfl) (by decide +kernel)
theorem mo_X6_costWith : MeOK meths eX6_costWith := ⟨bo_X6_costWith.1, bo_X6_costWith.2, (tb3 53 rfl rfl), by decide +kernel, ⟨by decide +kernel, by decide +kernel⟩, ⟨3, by decide +kernel, rfl⟩, fun _ => rfl⟩
set_option maxRecDepth 100000 in
theorem bo_X6_photoOf : BodyOK meths eX6_photoOf := body_ok (pool := plRX6) chk_X6_photoOf (plRX6_ok _ rfl) (by decide +kernel)
theorem mo_X6_photoOf : MeOK meths eX6_photoOf := ⟨bo_X6_photoOf.1, bo_X6_photoOf.2, (tb3 60 rfl rfl), by decide +kernel, ⟨by decide +kernel, by decide +kernel⟩, ⟨1, by decide +kernel, rfl⟩, fun _ => rfl⟩
set_option maxRecDepth 100000 in
theorem bo_X6_firstPhoto : BodyOK meths eX6_firstPhoto := body_ok (pool := plRX6) chk_X6_firstPhoto (plRX6_ok _ rfl) (by decide +kernel)
theorem mo_X6_firstPhoto : MeOK meths eX6_firstPhoto := ⟨bo_X6_firstPhoto.1, bo_X6_firstPhoto.2, (tb3 64 rfl rfl), by decide +kernel, ⟨by decide +kernel, by decide +kernel⟩, ⟨2, by decide +kernel, rfl⟩, fun _ => rfl⟩
set_option maxRecDepth 100000 in
theorem bo_X6_barber : BodyOK meths eX6_barber := body_ok (pool := plRX6) chk_X6_barber (plRX6_ok _ rfl) (by decide +kernel)
theorem mo_X6_barber : MeOK meths eX6_barber := ⟨bo_X6_barber.1, bo_X6_barber.2, (tb3 68 rfl rfl), by decide +kernel, ⟨by decide +kernel, by decide +kernel⟩, ⟨2, by decide +kernel, rfl⟩, fun _ => rfl⟩
set_option maxRecDepth 100000 in
theorem bo_X6_steps : BodyOK meths eX6_steps := body_ok (pool := plRX6) chk_X6_steps (plRX6_ok _ rfl) (by decide +kernel)
theorem mo_X6_steps : MeOK meths eX6_steps := ⟨bo_X6_steps.1, bo_X6_steps.2, (tb3 72 rfl rfl), by decide +kernel, ⟨by decide +kernel, by decide +kernel⟩, ⟨2, by decide +kernel, rfl⟩, fun _ => rfl⟩
set_option maxRecDepth 100000 in
theorem bo_X6_glances : BodyOK meths eX6_glances := body_ok (pool := plRX6) chk_X6_glances (plRX6_ok _ rfl) (by decide +kernel)
theorem mo_X6_glances : MeOK meths eX6_glances := ⟨bo_X6_glances.1, bo_X6_glances.2, (tb3 83 rfl rfl), by decide +kernel, ⟨by decide +kernel, by decide +kernel⟩, ⟨3, by decide +kernel, rfl⟩, fun _ => rfl⟩
set_option maxRecDepth 100000 in
theorem bo_X6_unseen : BodyOK meths eX6_unseen := body_ok (pool := plRX6) chk_X6_unseen (plRX6_ok _ rfl) (by decide +kernel)
theorem mo_X6_unseen : MeOK meths eX6_unseen := ⟨bo_X6_unseen.1, bo_X6_unseen.2, (tb3 103 rfl rfl), by decide +kernel, ⟨by decide +kernel, by decide +kernel⟩, ⟨1, by decide +kernel, rfl⟩, fun _ => rfl⟩
set_option maxRecDepth 100000 in
theorem bo_X6_cover : BodyOK meths eX6_cover := body_ok (pool := plRX6) chk_X6_cover (plRX6_ok _ rfl) (by decide +kernel)
theorem mo_X6_cover : MeOK meths eX6_cover := ⟨bo_X6_cover.1, bo_X6_cover.2, (tb3 114 rfl rfl), by decide +kernel, ⟨by decide +kernel, by decide +kernel⟩, ⟨2, by decide +kernel, rfl⟩, fun _ => rfl⟩
set_option maxRecDepth 100000 in
theorem bo_X6_bargain : BodyOK meths eX6_bargain := body_ok (pool := plRX6) chk_X6_bargain (plRX6_ok _ rfl) (by decide +kernel)
theorem mo_X6_bargain : MeOK meths eX6_bargain := ⟨bo_X6_bargain.1, bo_X6_bargain.2, (tb3 123 rfl rfl), by decide +kernel, ⟨by decide +kernel, by decide +kernel⟩, ⟨2, by decide +kernel, rfl⟩, fun _ => rfl⟩
set_option maxRecDepth 100000 in
theorem bo_X6_townShare : BodyOK meths eX6_townShare := body_ok (pool := plRX6) chk_X6_townShare (plRX6_ok _ rfl) (by decide +kernel)
theorem mo_X6_townShare : MeOK meths eX6_townShare := ⟨bo_X6_townShare.1, bo_X6_townShare.2, (tb3 126 rfl rfl), by decide +kernel, ⟨by decide +kernel, by decide +kernel⟩, ⟨2, by decide +kernel, rfl⟩, fun h => absurd rfl h⟩
set_option maxRecDepth 100000 in
theorem bo_X6_strike : BodyOK meths eX6_strike := body_ok (pool := plRX6) chk_X6_strike (plRX6_ok _ rfl) (by decide +kernel)
theorem mo_X6_strike : MeOK meths eX6_strike := ⟨bo_X6_strike.1, bo_X6_strike.2, (tb3 130 rfl rfl), by decide +kernel, ⟨by decide +kernel, by decide +kernel⟩, ⟨1, by decide +kernel, rfl⟩, fun _ => rfl⟩
set_option maxRecDepth 100000 in
theorem bo_X6_echo : BodyOK meths eX6_echo := body_ok (pool := plRX6) chk_X6_echo (plRX6_ok _ rfl) (by decide +kernel)
theorem mo_X6_echo : MeOK meths eX6_echo := ⟨bo_X6_echo.1, bo_X6_echo.2, (tb3 134 rfl rfl), by decide +kernel, ⟨by decide +kernel, by decide +kernel⟩, ⟨1, by decide +kernel, rfl⟩, fun _ => rfl⟩
set_option maxRecDepth 100000 in
theorem bo_X6_loops : BodyOK meths eX6_loops := body_ok (pool := plRX6) chk_X6_loops (plRX6_ok _ rfl) (by decide +kernel)
theorem mo_X6_loops : MeOK meths eX6_loops := ⟨bo_X6_loops.1, bo_X6_loops.2, (tb3 143 rfl rfl), by decide +kernel, ⟨by decide +kernel, by decide +kernel⟩, ⟨1, by decide +kernel, rfl⟩, fun _ => rfl⟩
set_option maxRecDepth 100000 in
theorem bo_X6_humble : BodyOK meths eX6_humble := body_ok (pool := plRX6) chk_X6_humble (plRX6_ok _ rfl) (by decide +kernel)
theorem mo_X6_humble : MeOK meths eX6_humble := ⟨bo_X6_humble.1, bo_X6_humble.2, (tb3 149 rfl rfl), by decide +kernel, ⟨by decide +kernel, by decide +kernel⟩, ⟨1, by decide +kernel, rfl⟩, fun _ => rfl⟩
set_option maxRecDepth 100000 in
theorem bo_X6_aheadWithFigure : BodyOK meths eX6_aheadWithFigure := body_ok (pool := plRX6) chk_X6_aheadWithFigure (plRX6_ok _ rfl) (by decide +kernel)
theorem mo_X6_aheadWithFigure : MeOK meths eX6_aheadWithFigure := ⟨bo_X6_aheadWithFigure.1, bo_X6_aheadWithFigure.2, (tb3 153 rfl rfl), by decide +kernel, ⟨by decide +kernel, by decide +kernel⟩, ⟨3, by decide +kernel, rfl⟩, fun _ => rfl⟩
set_option maxRecDepth 100000 in
theorem bo_X6_highest : BodyOK meths eX6_highest := body_ok (pool := plRX6) chk_X6_highest (plRX6_ok _ rfl) (by decide +kernel)
theorem mo_X6_highest : MeOK meths eX6_highest := ⟨bo_X6_highest.1, bo_X6_highest.2, (tb3 157 rfl rfl), by decide +kernel, ⟨by decide +kernel, by decide +kernel⟩, ⟨2, by decide +kernel, rfl⟩, fun _ => rfl⟩
set_option maxRecDepth 100000 in
theorem bo_X6_spread : BodyOK meths eX6_spread := body_ok (pool := plRX6) chk_X6_spread (plRX6_ok _ rfl) (by decide +kernel)
theorem mo_X6_spread : MeOK meths eX6_spread := ⟨bo_X6_spread.1, bo_X6_spread.2, (tb3 161 rfl rfl), by decide +kernel, ⟨by decide +kernel, by decide +kernel⟩, ⟨1, by decide +kernel, rfl⟩, fun _ => rfl⟩
set_option maxRecDepth 100000 in
theorem bo_X6_pairs : BodyOK meths eX6_pairs := body_ok (pool := plRX6) chk_X6_pairs (plRX6_ok _ rfl) (by decide +kernel)
theorem mo_X6_pairs : MeOK meths eX6_pairs := ⟨bo_X6_pairs.1, bo_X6_pairs.2, (tb3 170 rfl rfl), by decide +kernel, ⟨by decide +kernel, by decide +kernel⟩, ⟨0, by decide +kernel, rfl⟩, fun _ => rfl⟩
set_option maxRecDepth 100000 in
theorem bo_X6_calm : BodyOK meths eX6_calm := body_ok (pool := plRX6) chk_X6_calm (plRX6_ok _ rfl) (by decide +kernel)
theorem mo_X6_calm : MeOK meths eX6_calm := ⟨bo_X6_calm.1, bo_X6_calm.2, (tb3 174 rfl rfl), by decide +kernel, ⟨by decide +kernel, by decide +kernel⟩, ⟨1, by decide +kernel, rfl⟩, fun _ => rfl⟩
set_option maxRecDepth 100000 in
theorem bo_X6_honest : BodyOK meths eX6_honest := body_ok (pool := plRX6) chk_X6_honest (plRX6_ok _ rfl) (by decide +kernel)
theorem mo_X6_honest : MeOK meths eX6_honest := ⟨bo_X6_honest.1, bo_X6_honest.2, (tb3 178 rfl rfl), by decide +kernel, ⟨by decide +kernel, by decide +kernel⟩, ⟨1, by decide +kernel, rfl⟩, fun _ => rfl⟩
set_option maxRecDepth 100000 in
theorem bo_X6_chain : BodyOK meths eX6_chain := body_ok (pool := plRX6) chk_X6_chain (plRX6_ok _ rfl) (by decide +kernel)
theorem mo_X6_chain : MeOK meths eX6_chain := ⟨bo_X6_chain.1, bo_X6_chain.2, (tb3 186 rfl rfl), by decide +kernel, ⟨by decide +kernel, by decide +kernel⟩, ⟨2, by decide +kernel, rfl⟩, fun _ => rfl⟩
set_option maxRecDepth 100000 in
theorem bo_X6_clique : BodyOK meths eX6_clique := body_ok (pool := plRX6) chk_X6_clique (plRX6_ok _ rfl) (by decide +kernel)
theorem mo_X6_clique : MeOK meths eX6_clique := ⟨bo_X6_clique.1, bo_X6_clique.2, (tb3 190 rfl rfl), by decide +kernel, ⟨by decide +kernel, by decide +kernel⟩, ⟨0, by decide +kernel, rfl⟩, fun _ => rfl⟩
set_option maxRecDepth 100000 in
theorem bo_X6_cut : BodyOK meths eX6_cut := body_ok (pool := plRX6) chk_X6_cut (plRX6_ok _ rfl) (by decide +kernel)
theorem mo_X6_cut : MeOK meths eX6_cut := ⟨bo_X6_cut.1, bo_X6_cut.2, (tb3 198 rfl rfl), by decide +kernel, ⟨by decide +kernel, by decide +kernel⟩, ⟨2, by decide +kernel, rfl⟩, fun _ => rfl⟩
set_option maxRecDepth 100000 in
theorem bo_X6_wanted : BodyOK meths eX6_wanted := body_ok (pool := plRX6) chk_X6_wanted (plRX6_ok _ rfl) (by decide +kernel)
theorem mo_X6_wanted : MeOK meths eX6_wanted := ⟨bo_X6_wanted.1, bo_X6_wanted.2, (tb3 202 rfl rfl), by decide +kernel, ⟨by decide +kernel, by decide +kernel⟩, ⟨2, by decide +kernel, rfl⟩, fun _ => rfl⟩
set_option maxRecDepth 100000 in
theorem bo_X6_panel : BodyOK meths eX6_panel := body_ok (pool := plRX6) chk_X6_panel (plRX6_ok _ rfl) (by decide +kernel)
theorem mo_X6_panel : MeOK meths eX6_panel := ⟨bo_X6_panel.1, bo_X6_panel.2, (tb3 206 rfl rfl), by decide +kernel, ⟨by decide +kernel, by decide +kernel⟩, ⟨2, by decide +kernel, rfl⟩, fun _ => rfl⟩
set_option maxRecDepth 100000 in
theorem bo_X6_tour : BodyOK meths eX6_tour := body_ok (pool := plRX6) chk_X6_tour (plRX6_ok _ rfl) (by decide +kernel)
theorem mo_X6_tour : MeOK meths eX6_tour := ⟨bo_X6_tour.1, bo_X6_tour.2, (tb3 210 rfl rfl), by decide +kernel, ⟨by decide +kernel, by decide +kernel⟩, ⟨2, by decide +kernel, rfl⟩, fun _ => rfl⟩
set_option maxRecDepth 100000 in
theorem bo_X6_hasSeen : BodyOK meths eX6_hasSeen := body_ok (pool := plRX6) chk_X6_hasSeen (plRX6_ok _ rfl) (by decide +kernel)
theorem mo_X6_hasSeen : MeOK meths eX6_hasSeen := ⟨bo_X6_hasSeen.1, bo_X6_hasSeen.2, (tb3 214 rfl rfl), by decide +kernel, ⟨by decide +kernel, by decide +kernel⟩, ⟨1, by decide +kernel, rfl⟩, fun _ => rfl⟩
set_option maxRecDepth 100000 in
theorem bo_X6_stepOn : BodyOK meths eX6_stepOn := body_ok (pool := plRX6) chk_X6_stepOn (plRX6_ok _ rfl) (by decide +kernel)
theorem mo_X6_stepOn : MeOK meths eX6_stepOn := ⟨bo_X6_stepOn.1, bo_X6_stepOn.2, (tb3 218 rfl rfl), by decide +kernel, ⟨by decide +kernel, by decide +kernel⟩, ⟨0, by decide +kernel, rfl⟩, fun _ => rfl⟩
set_option maxRecDepth 100000 in
theorem bo_X6_narrows : BodyOK meths eX6_narrows := body_ok (pool := plRX6) chk_X6_narrows (plRX6_ok _ rfl) (by decide +kernel)
theorem mo_X6_narrows : MeOK meths eX6_narrows := ⟨bo_X6_narrows.1, bo_X6_narrows.2, (tb3 223 rfl rfl), by decide +kernel, ⟨by decide +kernel, by decide +kernel⟩, ⟨2, by decide +kernel, rfl⟩, fun _ => rfl⟩
set_option maxRecDepth 100000 in
theorem bo_X6_middle : BodyOK meths eX6_middle := body_ok (pool := plRX6) chk_X6_middle (plRX6_ok _ rfl) (by decide +kernel)
theorem mo_X6_middle : MeOK meths eX6_middle := ⟨bo_X6_middle.1, bo_X6_middle.2, (tb3 227 rfl rfl), by decide +kernel, ⟨by decide +kernel, by decide +kernel⟩, ⟨2, by decide +kernel, rfl⟩, fun _ => rfl⟩
set_option maxRecDepth 100000 in
theorem bo_X6_changed : BodyOK meths eX6_changed := body_ok (pool := plRX6) chk_X6_changed (plRX6_ok _ rfl) (by decide +kernel)
theorem mo_X6_changed : MeOK meths eX6_changed := ⟨bo_X6_changed.1, bo_X6_changed.2, (tb3 235 rfl rfl), by decide +kernel, ⟨by decide +kernel, by decide +kernel⟩, ⟨3, by decide +kernel, rfl⟩, fun _ => rfl⟩
set_option maxRecDepth 100000 in
theorem bo_X6_row : BodyOK meths eX6_row := body_ok (pool := plRX6) chk_X6_row (plRX6_ok _ rfl) (by decide +kernel)
theorem mo_X6_row : MeOK meths eX6_row := ⟨bo_X6_row.1, bo_X6_row.2, (tb3 239 rfl rfl), by decide +kernel, ⟨by decide +kernel, by decide +kernel⟩, ⟨1, by decide +kernel, rfl⟩, fun _ => rfl⟩
set_option maxRecDepth 100000 in
theorem bo_X6_judge : BodyOK meths eX6_judge := body_ok (pool := plRX6) chk_X6_judge (plRX6_ok _ rfl) (by decide +kernel)
theorem mo_X6_judge : MeOK meths eX6_judge := ⟨bo_X6_judge.1, bo_X6_judge.2, (tb4 3 rfl rfl), by decide +kernel, ⟨by decide +kernel, by decide +kernel⟩, ⟨0, by decide +kernel, rfl⟩, fun _ => rfl⟩
set_option maxRecDepth 100000 in
theorem bo_X6_clear : BodyOK meths eX6_clear := body_ok (pool := plRX6) chk_X6_clear (plRX6_ok _ rfl) (by decide +kernel)
theorem mo_X6_clear : MeOK meths eX6_clear := ⟨bo_X6_clear.1, bo_X6_clear.2, (tb4 7 rfl rfl), by decide +kernel, ⟨by decide +kernel, by decide +kernel⟩, ⟨0, by decide +kernel, rfl⟩, fun _ => rfl⟩
set_option maxRecDepth 100000 in
theorem bo_X6_lots : BodyOK meths eX6_lots := body_ok (pool := plRX6) chk_X6_lots (plRX6_ok _ rfl) (by decide +kernel)
theorem mo_X6_lots : MeOK meths eX6_lots := ⟨bo_X6_lots.1, bo_X6_lots.2, (tb4 11 rfl rfl), by decide +kernel, ⟨by decide +kernel, by decide +kernel⟩, ⟨3, by decide +kernel, rfl⟩, fun _ => rfl⟩
set_option maxRecDepth 100000 in
theorem bo_X6_image : BodyOK meths eX6_image := body_ok (pool := plRX6) chk_X6_image (plRX6_ok _ rfl) (by decide +kernel)
theorem mo_X6_image : MeOK meths eX6_image := ⟨bo_X6_image.1, bo_X6_image.2, (tb4 23 rfl rfl), by decide +kernel, ⟨by decide +kernel, by decide +kernel⟩, ⟨0, by decide +kernel, rfl⟩, fun _ => rfl⟩
set_option maxRecDepth 100000 in
theorem bo_X6_restore : BodyOK meths eX6_restore := body_ok (pool := plRX6) chk_X6_restore (plRX6_ok _ rfl) (by decide +kernel)
theorem mo_X6_restore : MeOK meths eX6_restore := ⟨bo_X6_restore.1, bo_X6_restore.2, (tb4 27 rfl rfl), by decide +kernel, ⟨by decide +kernel, by decide +kernel⟩, ⟨0, by decide +kernel, rfl⟩, fun _ => rfl⟩
set_option maxRecDepth 100000 in
theorem bo_X6_count : BodyOK meths eX6_count := body_ok (pool := plRX6) chk_X6_count (plRX6_ok _ rfl) (by decide +kernel)
theorem mo_X6_count : MeOK meths eX6_count := ⟨bo_X6_count.1, bo_X6_count.2, (tb4 31 rfl rfl), by decide +kernel, ⟨by decide +kernel, by decide +kernel⟩, ⟨1, by decide +kernel, rfl⟩, fun _ => rfl⟩
set_option maxRecDepth 100000 in
theorem bo_X7_init : BodyOK meths eX7_init := body_ok (pool := plRX7i) chk_X7_init (plRX7i_ok _ rfl rfl) (by decide +kernel)
theorem mo_X7_init : MeOK meths eX7_init := ⟨bo_X7_init.1, bo_X7_init.2, (tb4 45 rfl rfl), by decide +kernel, ⟨by decide +kernel, by decide +kernel⟩, ⟨0, by decide +kernel, rfl⟩, fun _ => rfl⟩
set_option maxRecDepth 100000 in
theorem bo_X7_no : BodyOK meths eX7_no := body_ok (pool := plRX7) chk_X7_no (plRX7_ok _ rfl) (by decide +kernel)
theorem mo_X7_no : MeOK meths eX7_no := ⟨bo_X7_no.1, bo_X7_no.2, (tb4 148 rfl rfl), by decide +kernel, ⟨by decide +kernel, by decide +kernel⟩, ⟨1, by decide +kernel, rfl⟩, fun _ => rfl⟩
set_option maxRecDepth 100000 in
theorem bo_X7_lower : BodyOK meths eX7_lower := body_ok (pool := plRX7) chk_X7_lower (plRX7_ok _ rfl) (by decide +kernel)
theorem mo_X7_lower : MeOK meths eX7_lower := ⟨bo_X7_lower.1, bo_X7_lower.2, (tb5 144 rfl rfl), by decide +kernel, ⟨by decide +kernel, by decide +kernel⟩, ⟨1, by decide +kernel, rfl⟩, fun _ => rfl⟩
theorem bo_X7_isIn : BodyOK meths eX7_isIn := body_ok (pool := []) chk_X7_isIn (fun _ h => absurd h List.not_mem_nil) (by decide +kernel)
theorem mo_X7_isIn : MeOK meths eX7_isIn := ⟨bo_X7_isIn.1, bo_X7_isIn.2, (tb4 171 rfl rfl), by decide +kernel, ⟨by decide +kernel, by decide +kernel⟩, ⟨3, by decide +kernel, rfl⟩, fun h => absurd rfl h⟩
theorem bo_X7_bound : BodyOK meths eX7_bound := body_ok (pool := []) chk_X7_bound (fun _ h => absurd h List.not_mem_nil) (by decide +kernel)
theorem mo_X7_bound : MeOK meths eX7_bound := ⟨bo_X7_bound.1, bo_X7_bound.2, (tb4 144 rfl rfl), by decide +kernel, ⟨by decide +kernel, by decide +kernel⟩, ⟨3, by decide +kernel, rfl⟩, fun h => absurd rfl h⟩
theorem bo_X7_has : BodyOK meths eX7_has := body_ok (pool := []) chk_X7_has (fun _ h => absurd h List.not_mem_nil) (by decide +kernel)
theorem mo_X7_has : MeOK meths eX7_has := ⟨bo_X7_has.1, bo_X7_has.2, (tb4 217 rfl rfl), by decide +kernel, ⟨by decide +kernel, by decide +kernel⟩, ⟨2, by decide +kernel, rfl⟩, fun h => absurd rfl h⟩
theorem bo_X7_bits : BodyOK meths eX7_bits := body_ok (pool := []) chk_X7_bits (fun _ h => absurd h List.not_mem_nil) (by decide +kernel)
theorem mo_X7_bits : MeOK meths eX7_bits := ⟨bo_X7_bits.1, bo_X7_bits.2, (tb4 227 rfl rfl), by decide +kernel, ⟨by decide +kernel, by decide +kernel⟩, ⟨1, by decide +kernel, rfl⟩, fun h => absurd rfl h⟩
theorem bo_X7_far : BodyOK meths eX7_far := body_ok (pool := []) chk_X7_far (fun _ h => absurd h List.not_mem_nil) (by decide +kernel)
theorem mo_X7_far : MeOK meths eX7_far := ⟨bo_X7_far.1, bo_X7_far.2, (tb5 77 rfl rfl), by decide +kernel, ⟨by decide +kernel, by decide +kernel⟩, ⟨2, by decide +kernel, rfl⟩, fun h => absurd rfl h⟩
set_option maxRecDepth 100000 in
theorem bo_X7_isPerson : BodyOK meths eX7_isPerson := body_ok (pool := plRX7) chk_X7_isPerson (plRX7_ok _ rfl) (by decide +kernel)
theorem mo_X7_isPerson : MeOK meths eX7_isPerson := ⟨bo_X7_isPerson.1, bo_X7_isPerson.2, (tb4 199 rfl rfl), by decide +kernel, ⟨by decide +kernel, by decide +kernel⟩, ⟨1, by decide +kernel, rfl⟩, fun _ => rfl⟩
set_option maxRecDepth 100000 in
theorem bo_X7_areTwo : BodyOK meths eX7_areTwo := body_ok (pool := plRX7) chk_X7_areTwo (plRX7_ok _ rfl) (by decide +kernel)
theorem mo_X7_areTwo : MeOK meths eX7_areTwo := ⟨bo_X7_areTwo.1, bo_X7_areTwo.2, (tb4 195 rfl rfl), by decide +kernel, ⟨by decide +kernel, by decide +kernel⟩, ⟨2, by decide +kernel, rfl⟩, fun _ => rfl⟩
theorem bo_X7_isPlace : BodyOK meths eX7_isPlace := body_ok (pool := []) chk_X7_isPlace (fun _ h => absurd h List.not_mem_nil) (by decide +kernel)
theorem mo_X7_isPlace : MeOK meths eX7_isPlace := ⟨bo_X7_isPlace.1, bo_X7_isPlace.2, (tb4 202 rfl rfl), by decide +kernel, ⟨by decide +kernel, by decide +kernel⟩, ⟨1, by decide +kernel, rfl⟩, fun h => absurd rfl h⟩
set_option maxRecDepth 100000 in
theorem bo_X7_all : BodyOK meths eX7_all := body_ok (pool := plRX7) chk_X7_all (plRX7_ok _ rfl) (by decide +kernel)
theorem mo_X7_all : MeOK meths eX7_all := ⟨bo_X7_all.1, bo_X7_all.2, (tb5 116 rfl rfl), by decide +kernel, ⟨by decide +kernel, by decide +kernel⟩, ⟨0, by decide +kernel, rfl⟩, fun _ => rfl⟩
set_option maxRecDepth 100000 in
theorem bo_X7_feed : BodyOK meths eX7_feed := body_ok (pool := plRX7) chk_X7_feed (plRX7_ok _ rfl) (by decide +kernel)
theorem mo_X7_feed : MeOK meths eX7_feed := ⟨bo_X7_feed.1, bo_X7_feed.2, (tb4 141 rfl rfl), by decide +kernel, ⟨by decide +kernel, by decide +kernel⟩, ⟨1, by decide +kernel, rfl⟩, fun _ => rfl⟩
set_option maxRecDepth 100000 in
theorem bo_X7_next : BodyOK meths eX7_next := body_ok (pool := plRX7) chk_X7_next (plRX7_ok _ rfl) (by decide +kernel)
theorem mo_X7_next : MeOK meths eX7_next := ⟨bo_X7_next.1, bo_X7_next.2, (tb4 160 rfl rfl), by decide +kernel, ⟨by decide +kernel, by decide +kernel⟩, ⟨0, by decide +kernel, rfl⟩, fun _ => rfl⟩
set_option maxRecDepth 100000 in
theorem bo_X7_readsDigits : BodyOK meths eX7_readsDigits := body_ok (pool := plRX7) chk_X7_readsDigits (plRX7_ok _ rfl) (by decide +kernel)
theorem mo_X7_readsDigits : MeOK meths eX7_readsDigits := ⟨bo_X7_readsDigits.1, bo_X7_readsDigits.2, (tb4 168 rfl rfl), by decide +kernel, ⟨by decide +kernel, by decide +kernel⟩, ⟨2, by decide +kernel, rfl⟩, fun _ => rfl⟩
set_option maxRecDepth 100000 in
theorem bo_X7_readsAll : BodyOK meths eX7_readsAll := body_ok (pool := plRX7) chk_X7_readsAll (plRX7_ok _ rfl) (by decide +kernel)
theorem mo_X7_readsAll : MeOK meths eX7_readsAll := ⟨bo_X7_readsAll.1, bo_X7_readsAll.2, (tb4 164 rfl rfl), by decide +kernel, ⟨by decide +kernel, by decide +kernel⟩, ⟨2, by decide +kernel, rfl⟩, fun _ => rfl⟩
set_option maxRecDepth 100000 in
theorem bo_X7_statement : BodyOK meths eX7_statement := body_ok (pool := plRX7) chk_X7_statement (plRX7_ok _ rfl) (by decide +kernel)
theorem mo_X7_statement : MeOK meths eX7_statement := ⟨bo_X7_statement.1, bo_X7_statement.2, (tb4 156 rfl rfl), by decide +kernel, ⟨by decide +kernel, by decide +kernel⟩, ⟨0, by decide +kernel, rfl⟩, fun _ => rfl⟩
set_option maxRecDepth 100000 in
theorem bo_X7_comes : BodyOK meths eX7_comes := body_ok (pool := plRX7) chk_X7_comes (plRX7_ok _ rfl) (by decide +kernel)
theorem mo_X7_comes : MeOK meths eX7_comes := ⟨bo_X7_comes.1, bo_X7_comes.2, (tb4 187 rfl rfl), by decide +kernel, ⟨by decide +kernel, by decide +kernel⟩, ⟨1, by decide +kernel, rfl⟩, fun _ => rfl⟩
set_option maxRecDepth 100000 in
theorem bo_X7_town : BodyOK meths eX7_town := body_ok (pool := plRX7) chk_X7_town (plRX7_ok _ rfl) (by decide +kernel)
theorem mo_X7_town : MeOK meths eX7_town := ⟨bo_X7_town.1, bo_X7_town.2, (tb4 152 rfl rfl), by decide +kernel, ⟨by decide +kernel, by decide +kernel⟩, ⟨0, by decide +kernel, rfl⟩, fun _ => rfl⟩
set_option maxRecDepth 100000 in
theorem bo_X7_passes : BodyOK meths eX7_passes := body_ok (pool := plRX7) chk_X7_passes (plRX7_ok _ rfl) (by decide +kernel)
theorem mo_X7_passes : MeOK meths eX7_passes := ⟨bo_X7_passes.1, bo_X7_passes.2, (tb4 179 rfl rfl), by decide +kernel, ⟨by decide +kernel, by decide +kernel⟩, ⟨1, by decide +kernel, rfl⟩, fun _ => rfl⟩
set_option maxRecDepth 100000 in
theorem bo_X7_passOne : BodyOK meths eX7_passOne := body_ok (pool := plRX7) chk_X7_passOne (plRX7_ok _ rfl) (by decide +kernel)
theorem mo_X7_passOne : MeOK meths eX7_passOne := ⟨bo_X7_passOne.1, bo_X7_passOne.2, (tb4 183 rfl rfl), by decide +kernel, ⟨by decide +kernel, by decide +kernel⟩, ⟨1, by decide +kernel, rfl⟩, fun _ => rfl⟩
set_option maxRecDepth 100000 in
theorem bo_X7_passesAll : BodyOK meths eX7_passesAll := body_ok (pool := plRX7) chk_X7_passesAll (plRX7_ok _ rfl) (by decide +kernel)
theorem mo_X7_passesAll : MeOK meths eX7_passesAll := ⟨bo_X7_passesAll.1, bo_X7_passesAll.2, (tb4 175 rfl rfl), by decide +kernel, ⟨by decide +kernel, by decide +kernel⟩, ⟨2, by decide +kernel, rfl⟩, fun _ => rfl⟩
set_option maxRecDepth 100000 in
theorem bo_X7_thinks : BodyOK meths eX7_thinks := body_ok (pool := plRX7) chk_X7_thinks (plRX7_ok _ rfl) (by decide +kernel)
theorem mo_X7_thinks : MeOK meths eX7_thinks := ⟨bo_X7_thinks.1, bo_X7_thinks.2, (tb5 58 rfl rfl), by decide +kernel, ⟨by decide +kernel, by decide +kernel⟩, ⟨0, by decide +kernel, rfl⟩, fun _ => rfl⟩
set_option maxRecDepth 100000 in
theorem bo_X7_forgets : BodyOK meths eX7_forgets := body_ok (pool := plRX7) chk_X7_forgets (plRX7_ok _ rfl) (by decide +kernel)
theorem mo_X7_forgets : MeOK meths eX7_forgets := ⟨bo_X7_forgets.1, bo_X7_forgets.2, (tb5 62 rfl rfl), by decide +kernel, ⟨by decide +kernel, by decide +kernel⟩, ⟨0, by decide +kernel, rfl⟩, fun _ => rfl⟩
set_option maxRecDepth 100000 in
theorem bo_X7_keepsBack : BodyOK meths eX7_keepsBack := body_ok (pool := plRX7) chk_X7_keepsBack (plRX7_ok _ rfl) (by decide +kernel)
theorem mo_X7_keepsBack : MeOK meths eX7_keepsBack := ⟨bo_X7_keepsBack.1, bo_X7_keepsBack.2, (tb5 15 rfl rfl), by decide +kernel, ⟨by decide +kernel, by decide +kernel⟩, ⟨0, by decide +kernel, rfl⟩, fun _ => rfl⟩
set_option maxRecDepth 100000 in
theorem bo_X7_back : BodyOK meths eX7_back := body_ok (pool := plRX7) chk_X7_back (plRX7_ok _ rfl) (by decide +kernel)
theorem mo_X7_back : MeOK meths eX7_back := ⟨bo_X7_back.1, bo_X7_back.2, (tb4 231 rfl rfl), by decide +kernel, ⟨by decide +kernel, by decide +kernel⟩, ⟨0, by decide +kernel, rfl⟩, fun _ => rfl⟩
set_option maxRecDepth 100000 in
theorem bo_X7_image : BodyOK meths eX7_image := body_ok (pool := plRX7) chk_X7_image (plRX7_ok _ rfl) (by decide +kernel)
theorem mo_X7_image : MeOK meths eX7_image := ⟨bo_X7_image.1, bo_X7_image.2, (tb4 235 rfl rfl), by decide +kernel, ⟨by decide +kernel, by decide +kernel⟩, ⟨0, by decide +kernel, rfl⟩, fun _ => rfl⟩
set_option maxRecDepth 100000 in
theorem bo_X7_restore : BodyOK meths eX7_restore := body_ok (pool := plRX7) chk_X7_restore (plRX7_ok _ rfl) (by decide +kernel)
theorem mo_X7_restore : MeOK meths eX7_restore := ⟨bo_X7_restore.1, bo_X7_restore.2, (tb4 239 rfl rfl), by decide +kernel, ⟨by decide +kernel, by decide +kernel⟩, ⟨0, by decide +kernel, rfl⟩, fun _ => rfl⟩
set_option maxRecDepth 100000 in
theorem bo_X7_adds : BodyOK meths eX7_adds := body_ok (pool := plRX7) chk_X7_adds (plRX7_ok _ rfl) (by decide +kernel)
theorem mo_X7_adds : MeOK meths eX7_adds := ⟨bo_X7_adds.1, bo_X7_adds.2, (tb4 191 rfl rfl), by decide +kernel, ⟨by decide +kernel, by decide +kernel⟩, ⟨3, by decide +kernel, rfl⟩, fun _ => rfl⟩
theorem bo_X7_held : BodyOK meths eX7_held := body_ok (pool := []) chk_X7_held (fun _ h => absurd h List.not_mem_nil) (by decide +kernel)
theorem mo_X7_held : MeOK meths eX7_held := ⟨bo_X7_held.1, bo_X7_held.2, (tb4 224 rfl rfl), by decide +kernel, ⟨by decide +kernel, by decide +kernel⟩, ⟨1, by decide +kernel, rfl⟩, fun h => absurd rfl h⟩
set_option maxRecDepth 100000 in
theorem bo_X7_saidOf : BodyOK meths eX7_saidOf := body_ok (pool := plRX7) chk_X7_saidOf (plRX7_ok _ rfl) (by decide +kernel)
theorem mo_X7_saidOf : MeOK meths eX7_saidOf := ⟨bo_X7_saidOf.1, bo_X7_saidOf.2, (tb4 221 rfl rfl), by decide +kernel, ⟨by decide +kernel, by decide +kernel⟩, ⟨2, by decide +kernel, rfl⟩, fun _ => rfl⟩
set_option maxRecDepth 100000 in
theorem bo_X7_meanOf : BodyOK meths eX7_meanOf := body_ok (pool := plRX7) chk_X7_meanOf (plRX7_ok _ rfl) (by decide +kernel)
theorem mo_X7_meanOf : MeOK meths eX7_meanOf := ⟨bo_X7_meanOf.1, bo_X7_meanOf.2, (tb4 214 rfl rfl), by decide +kernel, ⟨by decide +kernel, by decide +kernel⟩, ⟨2, by decide +kernel, rfl⟩, fun _ => rfl⟩
set_option maxRecDepth 100000 in
theorem bo_X7_goesWeek : BodyOK meths eX7_goesWeek := body_ok (pool := plRX7) chk_X7_goesWeek (plRX7_ok _ rfl) (by decide +kernel)
theorem mo_X7_goesWeek : MeOK meths eX7_goesWeek := ⟨bo_X7_goesWeek.1, bo_X7_goesWeek.2, (tb4 210 rfl rfl), by decide +kernel, ⟨by decide +kernel, by decide +kernel⟩, ⟨0, by decide +kernel, rfl⟩, fun _ => rfl⟩
set_option maxRecDepth 100000 in
theorem bo_X7_turnsWay : BodyOK meths eX7_turnsWay := body_ok (pool := plRX7) chk_X7_turnsWay (plRX7_ok _ rfl) (by decide +kernel)
theorem mo_X7_turnsWay : MeOK meths eX7_turnsWay := ⟨bo_X7_turnsWay.1, bo_X7_turnsWay.2, (tb4 206 rfl rfl), by decide +kernel, ⟨by decide +kernel, by decide +kernel⟩, ⟨2, by decide +kernel, rfl⟩, fun _ => rfl⟩
set_option maxRecDepth 100000 in
theorem bo_X7_person : BodyOK meths eX7_person := body_ok (pool := plRX7) chk_X7_person (plRX7_ok _ rfl) (by decide +kernel)
theorem mo_X7_person : MeOK meths eX7_person := ⟨bo_X7_person.1, bo_X7_person.2, (tb5 3 rfl rfl), by decide +kernel, ⟨by decide +kernel, by decide +kernel⟩, ⟨2, by decide +kernel, rfl⟩, fun _ => rfl⟩
set_option maxRecDepth 100000 in
theorem bo_X7_comes_ : BodyOK meths eX7_comes_ := body_ok (pool := plRX7) chk_X7_comes_ (plRX7_ok _ rfl) (by decide +kernel)
theorem mo_X7_comes_ : MeOK meths eX7_comes_ := ⟨bo_X7_comes_.1, bo_X7_comes_.2, (tb5 7 rfl rfl), by decide +kernel, ⟨by decide +kernel, by decide +kernel⟩, ⟨3, by decide +kernel, rfl⟩, fun _ => rfl⟩
set_option maxRecDepth 100000 in
theorem bo_X7_asks : BodyOK meths eX7_asks := body_ok (pool := plRX7) chk_X7_asks (plRX7_ok _ rfl) (by decide +kernel)
theorem mo_X7_asks : MeOK meths eX7_asks := ⟨bo_X7_asks.1, bo_X7_asks.2, (tb5 11 rfl rfl), by decide +kernel, ⟨by decide +kernel, by decide +kernel⟩, ⟨2, by decide +kernel, rfl⟩, fun _ => rfl⟩
set_option maxRecDepth 100000 in
theorem bo_X7_believes : BodyOK meths eX7_believes := body_ok (pool := plRX7) chk_X7_believes (plRX7_ok _ rfl) (by decide +kernel)
theorem mo_X7_believes : MeOK meths eX7_believes := ⟨bo_X7_believes.1, bo_X7_believes.2, (tb5 19 rfl rfl), by decide +kernel, ⟨by decide +kernel, by decide +kernel⟩, ⟨2, by decide +kernel, rfl⟩, fun _ => rfl⟩
set_option maxRecDepth 100000 in
theorem bo_X7_kind : BodyOK meths eX7_kind := body_ok (pool := plRX7) chk_X7_kind (plRX7_ok _ rfl) (by decide +kernel)
theorem mo_X7_kind : MeOK meths eX7_kind := ⟨bo_X7_kind.1, bo_X7_kind.2, (tb5 23 rfl rfl), by decide +kernel, ⟨by decide +kernel, by decide +kernel⟩, ⟨3, by decide +kernel, rfl⟩, fun _ => rfl⟩
set_option maxRecDepth 100000 in
theorem bo_X7_way : BodyOK meths eX7_way := body_ok (pool := plRX7) chk_X7_way (plRX7_ok _ rfl) (by decide +kernel)
theorem mo_X7_way : MeOK meths eX7_way := ⟨bo_X7_way.1, bo_X7_way.2, (tb5 27 rfl rfl), by decide +kernel, ⟨by decide +kernel, by decide +kernel⟩, ⟨2, by decide +kernel, rfl⟩, fun _ => rfl⟩
set_option maxRecDepth 100000 in
theorem bo_X7_hangs : BodyOK meths eX7_hangs := body_ok (pool := plRX7) chk_X7_hangs (plRX7_ok _ rfl) (by decide +kernel)
theorem mo_X7_hangs : MeOK meths eX7_hangs := ⟨bo_X7_hangs.1, bo_X7_hangs.2, (tb5 31 rfl rfl), by decide +kernel, ⟨by decide +kernel, by decide +kernel⟩, ⟨2, by decide +kernel, rfl⟩, fun _ => rfl⟩
set_option maxRecDepth 100000 in
theorem bo_X7_week : BodyOK meths eX7_week := body_ok (pool := plRX7) chk_X7_week (plRX7_ok _ rfl) (by decide +kernel)
theorem mo_X7_week : MeOK meths eX7_week := ⟨bo_X7_week.1, bo_X7_week.2, (tb5 35 rfl rfl), by decide +kernel, ⟨by decide +kernel, by decide +kernel⟩, ⟨0, by decide +kernel, rfl⟩, fun _ => rfl⟩
set_option maxRecDepth 100000 in
theorem bo_X7_says : BodyOK meths eX7_says := body_ok (pool := plRX7) chk_X7_says (plRX7_ok _ rfl) (by decide +kernel)
theorem mo_X7_says : MeOK meths eX7_says := ⟨bo_X7_says.1, bo_X7_says.2, (tb5 39 rfl rfl), by decide +kernel, ⟨by decide +kernel, by decide +kernel⟩, ⟨2, by decide +kernel, rfl⟩, fun _ => rfl⟩
set_option maxRecDepth 100000 in
theorem bo_X7_saysOf : BodyOK meths eX7_saysOf := body_ok (pool := plRX7) chk_X7_saysOf (plRX7_ok _ rfl) (by decide +kernel)
theorem mo_X7_saysOf : MeOK meths eX7_saysOf := ⟨bo_X7_saysOf.1, bo_X7_saysOf.2, (tb5 43 rfl rfl), by decide +kernel, ⟨by decide +kernel, by decide +kernel⟩, ⟨2, by decide +kernel, rfl⟩, fun _ => rfl⟩
set_option maxRecDepth 100000 in
theorem bo_X7_findWeeks : BodyOK meths eX7_findWeeks := body_ok (pool := plRX7) chk_X7_findWeeks (plRX7_ok _ rfl) (by decide +kernel)
theorem mo_X7_findWeeks : MeOK meths eX7_findWeeks := ⟨bo_X7_findWeeks.1, bo_X7_findWeeks.2, (tb5 54 rfl rfl), by decide +kernel, ⟨by decide +kernel, by decide +kernel⟩, ⟨1, by decide +kernel, rfl⟩, fun _ => rfl⟩
set_option maxRecDepth 100000 in
theorem bo_X7_notWeeks : BodyOK meths eX7_notWeeks := body_ok (pool := plRX7) chk_X7_notWeeks (plRX7_ok _ rfl) (by decide +kernel)
theorem mo_X7_notWeeks : MeOK meths eX7_notWeeks := ⟨bo_X7_notWeeks.1, bo_X7_notWeeks.2, (tb5 50 rfl rfl), by decide +kernel, ⟨by decide +kernel, by decide +kernel⟩, ⟨1, by decide +kernel, rfl⟩, fun h => absurd rfl h⟩
set_option maxRecDepth 100000 in
theorem bo_X7_beliefAt : BodyOK meths eX7_beliefAt := body_ok (pool := plRX7) chk_X7_beliefAt (plRX7_ok _ rfl) (by decide +kernel)
theorem mo_X7_beliefAt : MeOK meths eX7_beliefAt := ⟨bo_X7_beliefAt.1, bo_X7_beliefAt.2, (tb5 66 rfl rfl), by decide +kernel, ⟨by decide +kernel, by decide +kernel⟩, ⟨2, by decide +kernel, rfl⟩, fun _ => rfl⟩
set_option maxRecDepth 100000 in
theorem bo_X7_belief : BodyOK meths eX7_belief := body_ok (pool := plRX7) chk_X7_belief (plRX7_ok _ rfl) (by decide +kernel)
theorem mo_X7_belief : MeOK meths eX7_belief := ⟨bo_X7_belief.1, bo_X7_belief.2, (tb5 47 rfl rfl), by decide +kernel, ⟨by decide +kernel, by decide +kernel⟩, ⟨2, by decide +kernel, rfl⟩, fun _ => rfl⟩
set_option maxRecDepth 100000 in
theorem bo_X7_fooledAt : BodyOK meths eX7_fooledAt := body_ok (pool := plRX7) chk_X7_fooledAt (plRX7_ok _ rfl) (by decide +kernel)
theorem mo_X7_fooledAt : MeOK meths eX7_fooledAt := ⟨bo_X7_fooledAt.1, bo_X7_fooledAt.2, (tb5 74 rfl rfl), by decide +kernel, ⟨by decide +kernel, by decide +kernel⟩, ⟨2, by decide +kernel, rfl⟩, fun _ => rfl⟩
set_option maxRecDepth 100000 in
theorem bo_X7_errorAt : BodyOK meths eX7_errorAt := body_ok (pool := plRX7) chk_X7_errorAt (plRX7_ok _ rfl) (by decide +kernel)
theorem mo_X7_errorAt : MeOK meths eX7_errorAt := ⟨bo_X7_errorAt.1, bo_X7_errorAt.2, (tb5 89 rfl rfl), by decide +kernel, ⟨by decide +kernel, by decide +kernel⟩, ⟨1, by decide +kernel, rfl⟩, fun _ => rfl⟩
set_option maxRecDepth 100000 in
theorem bo_X7_errorBehind : BodyOK meths eX7_errorBehind := body_ok (pool := plRX7) chk_X7_errorBehind (plRX7_ok _ rfl) (by decide +kernel)
theorem mo_X7_errorBehind : MeOK meths eX7_errorBehind := ⟨bo_X7_errorBehind.1, bo_X7_errorBehind.2, (tb5 85 rfl rfl), by decide +kernel, ⟨by decide +kernel, by decide +kernel⟩, ⟨1, by decide +kernel, rfl⟩, fun _ => rfl⟩
set_option maxRecDepth 100000 in
theorem bo_X7_fooled : BodyOK meths eX7_fooled := body_ok (pool := plRX7) chk_X7_fooled (plRX7_ok _ rfl) (by decide +kernel)
theorem mo_X7_fooled : MeOK meths eX7_fooled := ⟨bo_X7_fooled.1, bo_X7_fooled.2, (tb5 70 rfl rfl), by decide +kernel, ⟨by decide +kernel, by decide +kernel⟩, ⟨2, by decide +kernel, rfl⟩, fun _ => rfl⟩
set_option maxRecDepth 100000 in
theorem bo_X7_error : BodyOK meths eX7_error := body_ok (pool := plRX7) chk_X7_error (plRX7_ok _ rfl) (by decide +kernel)
theorem mo_X7_error : MeOK meths eX7_error := ⟨bo_X7_error.1, bo_X7_error.2, (tb5 81 rfl rfl), by decide +kernel, ⟨by decide +kernel, by decide +kernel⟩, ⟨1, by decide +kernel, rfl⟩, fun _ => rfl⟩
set_option maxRecDepth 100000 in
theorem bo_X7_first : BodyOK meths eX7_first := body_ok (pool := plRX7) chk_X7_first (plRX7_ok _ rfl) (by decide +kernel)
theorem mo_X7_first : MeOK meths eX7_first := ⟨bo_X7_first.1, bo_X7_first.2, (tb5 96 rfl rfl), by decide +kernel, ⟨by decide +kernel, by decide +kernel⟩, ⟨1, by decide +kernel, rfl⟩, fun h => absurd rfl h⟩
set_option maxRecDepth 100000 in
theorem bo_X7_clash : BodyOK meths eX7_clash := body_ok (pool := plRX7) chk_X7_clash (plRX7_ok _ rfl) (by decide +kernel)
theorem mo_X7_clash : MeOK meths eX7_clash := ⟨bo_X7_clash.1, bo_X7_clash.2, (tb5 93 rfl rfl), by decide +kernel, ⟨by decide +kernel, by decide +kernel⟩, ⟨2, by decide +kernel, rfl⟩, fun _ => rfl⟩
set_option maxRecDepth 100000 in
theorem bo_X7_areAlike : BodyOK meths eX7_areAlike := body_ok (pool := plRX7) chk_X7_areAlike (plRX7_ok _ rfl) (by decide +kernel)
theorem mo_X7_areAlike : MeOK meths eX7_areAlike := ⟨bo_X7_areAlike.1, bo_X7_areAlike.2, (tb5 104 rfl rfl), by decide +kernel, ⟨by decide +kernel, by decide +kernel⟩, ⟨2, by decide +kernel, rfl⟩, fun _ => rfl⟩
set_option maxRecDepth 100000 in
theorem bo_X7_settles : BodyOK meths eX7_settles := body_ok (pool := plRX7) chk_X7_settles (plRX7_ok _ rfl) (by decide +kernel)
theorem mo_X7_settles : MeOK meths eX7_settles := ⟨bo_X7_settles.1, bo_X7_settles.2, (tb5 100 rfl rfl), by decide +kernel, ⟨by decide +kernel, by decide +kernel⟩, ⟨0, by decide +kernel, rfl⟩, fun _ => rfl⟩
set_option maxRecDepth 100000 in
theorem bo_X7_round : BodyOK meths eX7_round := body_ok (pool := plRX7) chk_X7_round (plRX7_ok _ rfl) (by decide +kernel)
theorem mo_X7_round : MeOK meths eX7_round := ⟨bo_X7_round.1, bo_X7_round.2, (tb5 108 rfl rfl), by decide +kernel, ⟨by decide +kernel, by decide +kernel⟩, ⟨0, by decide +kernel, rfl⟩, fun _ => rfl⟩
set_option maxRecDepth 100000 in
theorem bo_X7_others : BodyOK meths eX7_others := body_ok (pool := plRX7) chk_X7_others (plRX7_ok _ rfl) (by decide +kernel)
theorem mo_X7_others : MeOK meths eX7_others := ⟨bo_X7_others.1, bo_X7_others.2, (tb5 124 rfl rfl), by decide +kernel, ⟨by decide +kernel, by decide +kernel⟩, ⟨1, by decide +kernel, rfl⟩, fun _ => rfl⟩
set_option maxRecDepth 100000 in
theorem bo_X7_isOf : BodyOK meths eX7_isOf := body_ok (pool := plRX7) chk_X7_isOf (plRX7_ok _ rfl) (by decide +kernel)
theorem mo_X7_isOf : MeOK meths eX7_isOf := ⟨bo_X7_isOf.1, bo_X7_isOf.2, (tb5 120 rfl rfl), by decide +kernel, ⟨by decide +kernel, by decide +kernel⟩, ⟨2, by decide +kernel, rfl⟩, fun _ => rfl⟩
set_option maxRecDepth 100000 in
theorem bo_X7_errorOf : BodyOK meths eX7_errorOf := body_ok (pool := plRX7) chk_X7_errorOf (plRX7_ok _ rfl) (by decide +kernel)
theorem mo_X7_errorOf : MeOK meths eX7_errorOf := ⟨bo_X7_errorOf.1, bo_X7_errorOf.2, (tb5 128 rfl rfl), by decide +kernel, ⟨by decide +kernel, by decide +kernel⟩, ⟨2, by decide +kernel, rfl⟩, fun _ => rfl⟩
set_option maxRecDepth 100000 in
theorem bo_X7_knows : BodyOK meths eX7_knows := body_ok (pool := plRX7) chk_X7_knows (plRX7_ok _ rfl) (by decide +kernel)
theorem mo_X7_knows : MeOK meths eX7_knows := ⟨bo_X7_knows.1, bo_X7_knows.2, (tb5 112 rfl rfl), by decide +kernel, ⟨by decide +kernel, by decide +kernel⟩, ⟨1, by decide +kernel, rfl⟩, fun _ => rfl⟩
set_option maxRecDepth 100000 in
theorem bo_X7_nearest : BodyOK meths eX7_nearest := body_ok (pool := plRX7) chk_X7_nearest (plRX7_ok _ rfl) (by decide +kernel)
theorem mo_X7_nearest : MeOK meths eX7_nearest := ⟨bo_X7_nearest.1, bo_X7_nearest.2, (tb5 132 rfl rfl), by decide +kernel, ⟨by decide +kernel, by decide +kernel⟩, ⟨2, by decide +kernel, rfl⟩, fun _ => rfl⟩
set_option maxRecDepth 100000 in
theorem bo_X7_fair : BodyOK meths eX7_fair := body_ok (pool := plRX7) chk_X7_fair (plRX7_ok _ rfl) (by decide +kernel)
theorem mo_X7_fair : MeOK meths eX7_fair := ⟨bo_X7_fair.1, bo_X7_fair.2, (tb5 136 rfl rfl), by decide +kernel, ⟨by decide +kernel, by decide +kernel⟩, ⟨3, by decide +kernel, rfl⟩, fun _ => rfl⟩
set_option maxRecDepth 100000 in
theorem bo_X7_worth : BodyOK meths eX7_worth := body_ok (pool := plRX7) chk_X7_worth (plRX7_ok _ rfl) (by decide +kernel)
theorem mo_X7_worth : MeOK meths eX7_worth := ⟨bo_X7_worth.1, bo_X7_worth.2, (tb5 140 rfl rfl), by decide +kernel, ⟨by decide +kernel, by decide +kernel⟩, ⟨2, by decide +kernel, rfl⟩, fun _ => rfl⟩
set_option maxRecDepth 100000 in
theorem bo_X7_newEar : BodyOK meths eX7_newEar := body_ok (pool := plRX7) chk_X7_newEar (plRX7_ok _ rfl) (by decide +kernel)
theorem mo_X7_newEar : MeOK meths eX7_newEar := ⟨bo_X7_newEar.1, bo_X7_newEar.2, (tb5 149 rfl rfl), by decide +kernel, ⟨by decide +kernel, by decide +kernel⟩, ⟨1, by decide +kernel, rfl⟩, fun _ => rfl⟩
set_option maxRecDepth 100000 in
theorem bo_X7_sisters : BodyOK meths eX7_sisters := body_ok (pool := plRX7) chk_X7_sisters (plRX7_ok _ rfl) (by decide +kernel)
theorem mo_X7_sisters : MeOK meths eX7_sisters := ⟨bo_X7_sisters.1, bo_X7_sisters.2, (tb5 153 rfl rfl), by decide +kernel, ⟨by decide +kernel, by decide +kernel⟩, ⟨4, by decide +kernel, rfl⟩, fun _ => rfl⟩
set_option maxRecDepth 100000 in
theorem bo_X7_believesWith : BodyOK meths eX7_believesWith := body_ok (pool := plRX7) chk_X7_believesWith (plRX7_ok _ rfl) (by decide +kernel)
theorem mo_X7_believesWith : MeOK meths eX7_believesWith := ⟨bo_X7_believesWith.1, bo_X7_believesWith.2, (tb5 161 rfl rfl), by decide +kernel, ⟨by decide +kernel, by decide +kernel⟩, ⟨2, by decide +kernel, rfl⟩, fun _ => rfl⟩
set_option maxRecDepth 100000 in
theorem bo_X7_cheat : BodyOK meths eX7_cheat := body_ok (pool := plRX7) chk_X7_cheat (plRX7_ok _ rfl) (by decide +kernel)
theorem mo_X7_cheat : MeOK meths eX7_cheat := ⟨bo_X7_cheat.1, bo_X7_cheat.2, (tb5 157 rfl rfl), by decide +kernel, ⟨by decide +kernel, by decide +kernel⟩, ⟨3, by decide +kernel, rfl⟩, fun _ => rfl⟩
set_option maxRecDepth 100000 in
theorem bo_X7_barber : BodyOK meths eX7_barber := body_ok (pool := plRX7) chk_X7_barber (plRX7_ok _ rfl) (by decide +kernel)
theorem mo_X7_barber : MeOK meths eX7_barber := ⟨bo_X7_barber.1, bo_X7_barber.2, (tb5 165 rfl rfl), by decide +kernel, ⟨by decide +kernel, by decide +kernel⟩, ⟨2, by decide +kernel, rfl⟩, fun _ => rfl⟩
set_option maxRecDepth 100000 in
theorem bo_X7_fits : BodyOK meths eX7_fits := body_ok (pool := plRX7) chk_X7_fits (plRX7_ok _ rfl) (by decide +kernel)
theorem mo_X7_fits : MeOK meths eX7_fits := ⟨bo_X7_fits.1, bo_X7_fits.2, (tb5 173 rfl rfl), by decide +kernel, ⟨by decide +kernel, by decide +kernel⟩, ⟨1, by decide +kernel, rfl⟩, fun _ => rfl⟩
set_option maxRecDepth 100000 in
theorem bo_X7_thief : BodyOK meths eX7_thief := body_ok (pool := plRX7) chk_X7_thief (plRX7_ok _ rfl) (by decide +kernel)
theorem mo_X7_thief : MeOK meths eX7_thief := ⟨bo_X7_thief.1, bo_X7_thief.2, (tb5 169 rfl rfl), by decide +kernel, ⟨by decide +kernel, by decide +kernel⟩, ⟨1, by decide +kernel, rfl⟩, fun _ => rfl⟩
set_option maxRecDepth 100000 in
theorem bo_X7_kindsBy : BodyOK meths eX7_kindsBy := body_ok (pool := plRX7) chk_X7_kindsBy (plRX7_ok _ rfl) (by decide +kernel)
theorem mo_X7_kindsBy : MeOK meths eX7_kindsBy := ⟨bo_X7_kindsBy.1, bo_X7_kindsBy.2, (tb5 181 rfl rfl), by decide +kernel, ⟨by decide +kernel, by decide +kernel⟩, ⟨1, by decide +kernel, rfl⟩, fun _ => rfl⟩
set_option maxRecDepth 100000 in
theorem bo_X7_tellsMost : BodyOK meths eX7_tellsMost := body_ok (pool := plRX7) chk_X7_tellsMost (plRX7_ok _ rfl) (by decide +kernel)
theorem mo_X7_tellsMost : MeOK meths eX7_tellsMost := ⟨bo_X7_tellsMost.1, bo_X7_tellsMost.2, (tb5 177 rfl rfl), by decide +kernel, ⟨by decide +kernel, by decide +kernel⟩, ⟨1, by decide +kernel, rfl⟩, fun _ => rfl⟩
set_option maxRecDepth 100000 in
theorem bo_X7_findPhotos : BodyOK meths eX7_findPhotos := body_ok (pool := plRX7) chk_X7_findPhotos (plRX7_ok _ rfl) (by decide +kernel)
theorem mo_X7_findPhotos : MeOK meths eX7_findPhotos := ⟨bo_X7_findPhotos.1, bo_X7_findPhotos.2, (tb5 189 rfl rfl), by decide +kernel, ⟨by decide +kernel, by decide +kernel⟩, ⟨0, by decide +kernel, rfl⟩, fun _ => rfl⟩
set_option maxRecDepth 100000 in
theorem bo_X7_photoOf : BodyOK meths eX7_photoOf := body_ok (pool := plRX7) chk_X7_photoOf (plRX7_ok _ rfl) (by decide +kernel)
theorem mo_X7_photoOf : MeOK meths eX7_photoOf := ⟨bo_X7_photoOf.1, bo_X7_photoOf.2, (tb5 193 rfl rfl), by decide +kernel, ⟨by decide +kernel, by decide +kernel⟩, ⟨2, by decide +kernel, rfl⟩, fun _ => rfl⟩
set_option maxRecDepth 100000 in
theorem bo_X7_photos : BodyOK meths eX7_photos := body_ok (pool := plRX7) chk_X7_photos (plRX7_ok _ rfl) (by decide +kernel)
theorem mo_X7_photos : MeOK meths eX7_photos := ⟨bo_X7_photos.1, bo_X7_photos.2, (tb5 185 rfl rfl), by decide +kernel, ⟨by decide +kernel, by decide +kernel⟩, ⟨1, by decide +kernel, rfl⟩, fun _ => rfl⟩
theorem bo_X7_glanceOf : BodyOK meths eX7_glanceOf := body_ok (pool := []) chk_X7_glanceOf (fun _ h => absurd h List.not_mem_nil) (by decide +kernel)
theorem mo_X7_glanceOf : MeOK meths eX7_glanceOf := ⟨bo_X7_glanceOf.1, bo_X7_glanceOf.2, (tb5 204 rfl rfl), by decide +kernel, ⟨by decide +kernel, by decide +kernel⟩, ⟨1, by decide +kernel, rfl⟩, fun h => absurd rfl h⟩
set_option maxRecDepth 100000 in
theorem bo_X7_findWays : BodyOK meths eX7_findWays := body_ok (pool := plRX7) chk_X7_findWays (plRX7_ok _ rfl) (by decide +kernel)
theorem mo_X7_findWays : MeOK meths eX7_findWays := ⟨bo_X7_findWays.1, bo_X7_findWays.2, (tb5 201 rfl rfl), by decide +kernel, ⟨by decide +kernel, by decide +kernel⟩, ⟨2, by decide +kernel, rfl⟩, fun _ => rfl⟩
set_option maxRecDepth 100000 in
theorem bo_X7_steps : BodyOK meths eX7_steps := body_ok (pool := plRX7) chk_X7_steps (plRX7_ok _ rfl) (by decide +kernel)
theorem mo_X7_steps : MeOK meths eX7_steps := ⟨bo_X7_steps.1, bo_X7_steps.2, (tb5 197 rfl rfl), by decide +kernel, ⟨by decide +kernel, by decide +kernel⟩, ⟨2, by decide +kernel, rfl⟩, fun _ => rfl⟩
set_option maxRecDepth 100000 in
theorem bo_X7_glances : BodyOK meths eX7_glances := body_ok (pool := plRX7) chk_X7_glances (plRX7_ok _ rfl) (by decide +kernel)
theorem mo_X7_glances : MeOK meths eX7_glances := ⟨bo_X7_glances.1, bo_X7_glances.2, (tb5 208 rfl rfl), by decide +kernel, ⟨by decide +kernel, by decide +kernel⟩, ⟨3, by decide +kernel, rfl⟩, fun _ => rfl⟩
set_option maxRecDepth 100000 in
theorem bo_X7_unseen : BodyOK meths eX7_unseen := body_ok (pool := plRX7) chk_X7_unseen (plRX7_ok _ rfl) (by decide +kernel)
theorem mo_X7_unseen : MeOK meths eX7_unseen := ⟨bo_X7_unseen.1, bo_X7_unseen.2, (tb5 212 rfl rfl), by decide +kernel, ⟨by decide +kernel, by decide +kernel⟩, ⟨1, by decide +kernel, rfl⟩, fun _ => rfl⟩
set_option maxRecDepth 100000 in
theorem bo_X7_cover : BodyOK meths eX7_cover := body_ok (pool := plRX7) chk_X7_cover (plRX7_ok _ rfl) (by decide +kernel)
theorem mo_X7_cover : MeOK meths eX7_cover := ⟨bo_X7_cover.1, bo_X7_cover.2, (tb5 216 rfl rfl), by decide +kernel, ⟨by decide +kernel, by decide +kernel⟩, ⟨2, by decide +kernel, rfl⟩, fun _ => rfl⟩
theorem bo_X7_hoursIn : BodyOK meths eX7_hoursIn := body_ok (pool := []) chk_X7_hoursIn (fun _ h => absurd h List.not_mem_nil) (by decide +kernel)
theorem mo_X7_hoursIn : MeOK meths eX7_hoursIn := ⟨bo_X7_hoursIn.1, bo_X7_hoursIn.2, (tb5 226 rfl rfl), by decide +kernel, ⟨by decide +kernel, by decide +kernel⟩, ⟨2, by decide +kernel, rfl⟩, fun h => absurd rfl h⟩
set_option maxRecDepth 100000 in
theorem bo_X7_townHas : BodyOK meths eX7_townHas := body_ok (pool := plRX7) chk_X7_townHas (plRX7_ok _ rfl) (by decide +kernel)
theorem mo_X7_townHas : MeOK meths eX7_townHas := ⟨bo_X7_townHas.1, bo_X7_townHas.2, (tb5 223 rfl rfl), by decide +kernel, ⟨by decide +kernel, by decide +kernel⟩, ⟨2, by decide +kernel, rfl⟩, fun h => absurd rfl h⟩
set_option maxRecDepth 100000 in
theorem bo_X7_bargain : BodyOK meths eX7_bargain := body_ok (pool := plRX7) chk_X7_bargain (plRX7_ok _ rfl) (by decide +kernel)
theorem mo_X7_bargain : MeOK meths eX7_bargain := ⟨bo_X7_bargain.1, bo_X7_bargain.2, (tb5 220 rfl rfl), by decide +kernel, ⟨by decide +kernel, by decide +kernel⟩, ⟨2, by decide +kernel, rfl⟩, fun _ => rfl⟩
set_option maxRecDepth 100000 in
theorem bo_X7_strike : BodyOK meths eX7_strike := body_ok (pool := plRX7) chk_X7_strike (plRX7_ok _ rfl) (by decide +kernel)
theorem mo_X7_strike : MeOK meths eX7_strike := ⟨bo_X7_strike.1, bo_X7_strike.2, (tb5 230 rfl rfl), by decide +kernel, ⟨by decide +kernel, by decide +kernel⟩, ⟨1, by decide +kernel, rfl⟩, fun _ => rfl⟩
set_option maxRecDepth 100000 in
theorem bo_X7_heardBy : BodyOK meths eX7_heardBy := body_ok (pool := plRX7) chk_X7_heardBy (plRX7_ok _ rfl) (by decide +kernel)
theorem mo_X7_heardBy : MeOK meths eX7_heardBy := ⟨bo_X7_heardBy.1, bo_X7_heardBy.2, (tb5 238 rfl rfl), by decide +kernel, ⟨by decide +kernel, by decide +kernel⟩, ⟨1, by decide +kernel, rfl⟩, fun _ => rfl⟩
set_option maxRecDepth 100000 in
theorem bo_X7_echo : BodyOK meths eX7_echo := body_ok (pool := plRX7) chk_X7_echo (plRX7_ok _ rfl) (by decide +kernel)
theorem mo_X7_echo : MeOK meths eX7_echo := ⟨bo_X7_echo.1, bo_X7_echo.2, (tb5 234 rfl rfl), by decide +kernel, ⟨by decide +kernel, by decide +kernel⟩, ⟨1, by decide +kernel, rfl⟩, fun _ => rfl⟩
set_option maxRecDepth 100000 in
theorem bo_X7_loops : BodyOK meths eX7_loops := body_ok (pool := plRX7) chk_X7_loops (plRX7_ok _ rfl) (by decide +kernel)
theorem mo_X7_loops : MeOK meths eX7_loops := ⟨bo_X7_loops.1, bo_X7_loops.2, (tb6 2 rfl rfl), by decide +kernel, ⟨by decide +kernel, by decide +kernel⟩, ⟨1, by decide +kernel, rfl⟩, fun _ => rfl⟩
set_option maxRecDepth 100000 in
theorem bo_X7_humble : BodyOK meths eX7_humble := body_ok (pool := plRX7) chk_X7_humble (plRX7_ok _ rfl) (by decide +kernel)
theorem mo_X7_humble : MeOK meths eX7_humble := ⟨bo_X7_humble.1, bo_X7_humble.2, (tb6 6 rfl rfl), by decide +kernel, ⟨by decide +kernel, by decide +kernel⟩, ⟨1, by decide +kernel, rfl⟩, fun _ => rfl⟩
set_option maxRecDepth 100000 in
theorem bo_X7_highest : BodyOK meths eX7_highest := body_ok (pool := plRX7) chk_X7_highest (plRX7_ok _ rfl) (by decide +kernel)
theorem mo_X7_highest : MeOK meths eX7_highest := ⟨bo_X7_highest.1, bo_X7_highest.2, (tb6 10 rfl rfl), by decide +kernel, ⟨by decide +kernel, by decide +kernel⟩, ⟨2, by decide +kernel, rfl⟩, fun _ => rfl⟩
set_option maxRecDepth 100000 in
theorem bo_X7_spread : BodyOK meths eX7_spread := body_ok (pool := plRX7) chk_X7_spread (plRX7_ok _ rfl) (by decide +kernel)
theorem mo_X7_spread : MeOK meths eX7_spread := ⟨bo_X7_spread.1, bo_X7_spread.2, (tb6 14 rfl rfl), by decide +kernel, ⟨by decide +kernel, by decide +kernel⟩, ⟨1, by decide +kernel, rfl⟩, fun _ => rfl⟩
set_option maxRecDepth 100000 in
theorem bo_X7_pairs : BodyOK meths eX7_pairs := body_ok (pool := plRX7) chk_X7_pairs (plRX7_ok _ rfl) (by decide +kernel)
theorem mo_X7_pairs : MeOK meths eX7_pairs := ⟨bo_X7_pairs.1, bo_X7_pairs.2, (tb6 18 rfl rfl), by decide +kernel, ⟨by decide +kernel, by decide +kernel⟩, ⟨0, by decide +kernel, rfl⟩, fun _ => rfl⟩
set_option maxRecDepth 100000 in
theorem bo_X7_isCalm : BodyOK meths eX7_isCalm := body_ok (pool := plRX7) chk_X7_isCalm (plRX7_ok _ rfl) (by decide +kernel)
theorem mo_X7_isCalm : MeOK meths eX7_isCalm := ⟨bo_X7_isCalm.1, bo_X7_isCalm.2, (tb6 26 rfl rfl), by decide +kernel, ⟨by decide +kernel, by decide +kernel⟩, ⟨2, by decide +kernel, rfl⟩, fun _ => rfl⟩
set_option maxRecDepth 100000 in
theorem bo_X7_calm : BodyOK meths eX7_calm := body_ok (pool := plRX7) chk_X7_calm (plRX7_ok _ rfl) (by decide +kernel)
theorem mo_X7_calm : MeOK meths eX7_calm := ⟨bo_X7_calm.1, bo_X7_calm.2, (tb6 22 rfl rfl), by decide +kernel, ⟨by decide +kernel, by decide +kernel⟩, ⟨1, by decide +kernel, rfl⟩, fun _ => rfl⟩
set_option maxRecDepth 100000 in
theorem bo_X7_untrue : BodyOK meths eX7_untrue := body_ok (pool := plRX7) chk_X7_untrue (plRX7_ok _ rfl) (by decide +kernel)
theorem mo_X7_untrue : MeOK meths eX7_untrue := ⟨bo_X7_untrue.1, bo_X7_untrue.2, (tb6 34 rfl rfl), by decide +kernel, ⟨by decide +kernel, by decide +kernel⟩, ⟨1, by decide +kernel, rfl⟩, fun _ => rfl⟩
set_option maxRecDepth 100000 in
theorem bo_X7_honest : BodyOK meths eX7_honest := body_ok (pool := plRX7) chk_X7_honest (plRX7_ok _ rfl) (by decide +kernel)
theorem mo_X7_honest : MeOK meths eX7_honest := ⟨bo_X7_honest.1, bo_X7_honest.2, (tb6 30 rfl rfl), by decide +kernel, ⟨by decide +kernel, by decide +kernel⟩, ⟨1, by decide +kernel, rfl⟩, fun _ => rfl⟩
set_option maxRecDepth 100000 in
theorem bo_X7_chainOf : BodyOK meths eX7_chainOf := body_ok (pool := plRX7) chk_X7_chainOf (plRX7_ok _ rfl) (by decide +kernel)
theorem mo_X7_chainOf : MeOK meths eX7_chainOf := ⟨bo_X7_chainOf.1, bo_X7_chainOf.2, (tb6 42 rfl rfl), by decide +kernel, ⟨by decide +kernel, by decide +kernel⟩, ⟨3, by decide +kernel, rfl⟩, fun _ => rfl⟩
set_option maxRecDepth 100000 in
theorem bo_X7_chain : BodyOK meths eX7_chain := body_ok (pool := plRX7) chk_X7_chain (plRX7_ok _ rfl) (by decide +kernel)
theorem mo_X7_chain : MeOK meths eX7_chain := ⟨bo_X7_chain.1, bo_X7_chain.2, (tb6 38 rfl rfl), by decide +kernel, ⟨by decide +kernel, by decide +kernel⟩, ⟨2, by decide +kernel, rfl⟩, fun _ => rfl⟩
set_option maxRecDepth 100000 in
theorem bo_X7_isClique : BodyOK meths eX7_isClique := body_ok (pool := plRX7) chk_X7_isClique (plRX7_ok _ rfl) (by decide +kernel)
theorem mo_X7_isClique : MeOK meths eX7_isClique := ⟨bo_X7_isClique.1, bo_X7_isClique.2, (tb6 50 rfl rfl), by decide +kernel, ⟨by decide +kernel, by decide +kernel⟩, ⟨1, by decide +kernel, rfl⟩, fun _ => rfl⟩
set_option maxRecDepth 100000 in
theorem bo_X7_clique : BodyOK meths eX7_clique := body_ok (pool := plRX7) chk_X7_clique (plRX7_ok _ rfl) (by decide +kernel)
theorem mo_X7_clique : MeOK meths eX7_clique := ⟨bo_X7_clique.1, bo_X7_clique.2, (tb6 46 rfl rfl), by decide +kernel, ⟨by decide +kernel, by decide +kernel⟩, ⟨0, by decide +kernel, rfl⟩, fun _ => rfl⟩
set_option maxRecDepth 100000 in
theorem bo_X7_cut : BodyOK meths eX7_cut := body_ok (pool := plRX7) chk_X7_cut (plRX7_ok _ rfl) (by decide +kernel)
theorem mo_X7_cut : MeOK meths eX7_cut := ⟨bo_X7_cut.1, bo_X7_cut.2, (tb6 54 rfl rfl), by decide +kernel, ⟨by decide +kernel, by decide +kernel⟩, ⟨2, by decide +kernel, rfl⟩, fun _ => rfl⟩
set_option maxRecDepth 100000 in
theorem bo_X7_wanted : BodyOK meths eX7_wanted := body_ok (pool := plRX7) chk_X7_wanted (plRX7_ok _ rfl) (by decide +kernel)
theorem mo_X7_wanted : MeOK meths eX7_wanted := ⟨bo_X7_wanted.1, bo_X7_wanted.2, (tb6 58 rfl rfl), by decide +kernel, ⟨by decide +kernel, by decide +kernel⟩, ⟨2, by decide +kernel, rfl⟩, fun _ => rfl⟩
set_option maxRecDepth 100000 in
theorem bo_X7_panel : BodyOK meths eX7_panel := body_ok (pool := plRX7) chk_X7_panel (plRX7_ok _ rfl) (by decide +kernel)
theorem mo_X7_panel : MeOK meths eX7_panel := ⟨bo_X7_panel.1, bo_X7_panel.2, (tb6 62 rfl rfl), by decide +kernel, ⟨by decide +kernel, by decide +kernel⟩, ⟨2, by decide +kernel, rfl⟩, fun _ => rfl⟩
set_option maxRecDepth 100000 in
theorem bo_X7_changed : BodyOK meths eX7_changed := body_ok (pool := plRX7) chk_X7_changed (plRX7_ok _ rfl) (by decide +kernel)
theorem mo_X7_changed : MeOK meths eX7_changed := ⟨bo_X7_changed.1, bo_X7_changed.2, (tb6 66 rfl rfl), by decide +kernel, ⟨by decide +kernel, by decide +kernel⟩, ⟨3, by decide +kernel, rfl⟩, fun _ => rfl⟩
set_option maxRecDepth 100000 in
theorem bo_X7_tour : BodyOK meths eX7_tour := body_ok (pool := plRX7) chk_X7_tour (plRX7_ok _ rfl) (by decide +kernel)
theorem mo_X7_tour : MeOK meths eX7_tour := ⟨bo_X7_tour.1, bo_X7_tour.2, (tb6 70 rfl rfl), by decide +kernel, ⟨by decide +kernel, by decide +kernel⟩, ⟨2, by decide +kernel, rfl⟩, fun _ => rfl⟩
set_option maxRecDepth 100000 in
theorem bo_X7_stepsOn : BodyOK meths eX7_stepsOn := body_ok (pool := plRX7) chk_X7_stepsOn (plRX7_ok _ rfl) (by decide +kernel)
theorem mo_X7_stepsOn : MeOK meths eX7_stepsOn := ⟨bo_X7_stepsOn.1, bo_X7_stepsOn.2, (tb6 74 rfl rfl), by decide +kernel, ⟨by decide +kernel, by decide +kernel⟩, ⟨2, by decide +kernel, rfl⟩, fun _ => rfl⟩
set_option maxRecDepth 100000 in
theorem bo_X7_isWayWithout : BodyOK meths eX7_isWayWithout := body_ok (pool := plRX7) chk_X7_isWayWithout (plRX7_ok _ rfl) (by decide +kernel)
theorem mo_X7_isWayWithout : MeOK meths eX7_isWayWithout := ⟨bo_X7_isWayWithout.1, bo_X7_isWayWithout.2, (tb6 82 rfl rfl), by decide +kernel, ⟨by decide +kernel, by decide +kernel⟩, ⟨3, by decide +kernel, rfl⟩, fun _ => rfl⟩
set_option maxRecDepth 100000 in
theorem bo_X7_narrows : BodyOK meths eX7_narrows := body_ok (pool := plRX7) chk_X7_narrows (plRX7_ok _ rfl) (by decide +kernel)
theorem mo_X7_narrows : MeOK meths eX7_narrows := ⟨bo_X7_narrows.1, bo_X7_narrows.2, (tb6 78 rfl rfl), by decide +kernel, ⟨by decide +kernel, by decide +kernel⟩, ⟨2, by decide +kernel, rfl⟩, fun _ => rfl⟩
set_option maxRecDepth 100000 in
theorem bo_X7_farthest : BodyOK meths eX7_farthest := body_ok (pool := plRX7) chk_X7_farthest (plRX7_ok _ rfl) (by decide +kernel)
theorem mo_X7_farthest : MeOK meths eX7_farthest := ⟨bo_X7_farthest.1, bo_X7_farthest.2, (tb6 90 rfl rfl), by decide +kernel, ⟨by decide +kernel, by decide +kernel⟩, ⟨1, by decide +kernel, rfl⟩, fun _ => rfl⟩
set_option maxRecDepth 100000 in
theorem bo_X7_middle : BodyOK meths eX7_middle := body_ok (pool := plRX7) chk_X7_middle (plRX7_ok _ rfl) (by decide +kernel)
theorem mo_X7_middle : MeOK meths eX7_middle := ⟨bo_X7_middle.1, bo_X7_middle.2, (tb6 86 rfl rfl), by decide +kernel, ⟨by decide +kernel, by decide +kernel⟩, ⟨2, by decide +kernel, rfl⟩, fun _ => rfl⟩
set_option maxRecDepth 100000 in
theorem bo_X7_row : BodyOK meths eX7_row := body_ok (pool := plRX7) chk_X7_row (plRX7_ok _ rfl) (by decide +kernel)
theorem mo_X7_row : MeOK meths eX7_row := ⟨bo_X7_row.1, bo_X7_row.2, (tb6 94 rfl rfl), by decide +kernel, ⟨by decide +kernel, by decide +kernel⟩, ⟨1, by decide +kernel, rfl⟩, fun _ => rfl⟩
set_option maxRecDepth 100000 in
theorem bo_X7_judge : BodyOK meths eX7_judge := body_ok (pool := plRX7) chk_X7_judge (plRX7_ok _ rfl) (by decide +kernel)
theorem mo_X7_judge : MeOK meths eX7_judge := ⟨bo_X7_judge.1, bo_X7_judge.2, (tb6 98 rfl rfl), by decide +kernel, ⟨by decide +kernel, by decide +kernel⟩, ⟨0, by decide +kernel, rfl⟩, fun _ => rfl⟩
set_option maxRecDepth 100000 in
theorem bo_X7_clear : BodyOK meths eX7_clear := body_ok (pool := plRX7) chk_X7_clear (plRX7_ok _ rfl) (by decide +kernel)
theorem mo_X7_clear : MeOK meths eX7_clear := ⟨bo_X7_clear.1, bo_X7_clear.2, (tb6 102 rfl rfl), by decide +kernel, ⟨by decide +kernel, by decide +kernel⟩, ⟨0, by decide +kernel, rfl⟩, fun _ => rfl⟩
set_option maxRecDepth 100000 in
theorem bo_X7_lots : BodyOK meths eX7_lots := body_ok (pool := plRX7) chk_X7_lots (plRX7_ok _ rfl) (by decide +kernel)
theorem mo_X7_lots : MeOK meths eX7_lots := ⟨bo_X7_lots.1, bo_X7_lots.2, (tb6 106 rfl rfl), by decide +kernel, ⟨by decide +kernel, by decide +kernel⟩, ⟨3, by decide +kernel, rfl⟩, fun _ => rfl⟩
set_option maxRecDepth 100000 in
theorem bo_X7_count : BodyOK meths eX7_count := body_ok (pool := plRX7) chk_X7_count (plRX7_ok _ rfl) (by decide +kernel)
theorem mo_X7_count : MeOK meths eX7_count := ⟨bo_X7_count.1, bo_X7_count.2, (tb6 113 rfl rfl), by decide +kernel, ⟨by decide +kernel, by decide +kernel⟩, ⟨1, by decide +kernel, rfl⟩, fun _ => rfl⟩
set_option maxRecDepth 100000 in
theorem bo_J6_bitCount_0f7a4 : BodyOK meths eJ6_bitCount_0f7a4 := body_ok (pool := plRJ6) chk_J6_bitCount_0f7a4 (plRJ6_ok _ rfl) (by decide +kernel)
theorem mo_J6_bitCount_0f7a4 : MeOK meths eJ6_bitCount_0f7a4 := ⟨bo_J6_bitCount_0f7a4.1, bo_J6_bitCount_0f7a4.2, (tb2 207 rfl rfl), by decide +kernel, ⟨by decide +kernel, by decide +kernel⟩, ⟨1, by decide +kernel, rfl⟩, fun h => absurd rfl h⟩
theorem bo_J7_fill_53178 : BodyOK meths eJ7_fill_53178 := body_ok (pool := []) chk_J7_fill_53178 (fun _ h => absurd h List.not_mem_nil) (by decide +kernel)
theorem mo_J7_fill_53178 : MeOK meths eJ7_fill_53178 := ⟨bo_J7_fill_53178.1, bo_J7_fill_53178.2, (tb3 40 rfl rfl), by decide +kernel, ⟨by decide +kernel, by decide +kernel⟩, ⟨2, by decide +kernel, rfl⟩, fun h => absurd rfl h⟩
set_option maxRecDepth 100000 in
theorem bo_L_law : BodyOK meths eL_law := body_ok (pool := plRL) chk_L_law (plRL_ok _ rfl) (by decide +kernel)
theorem meths_0_ok : ∀ e ∈ meths_0, MeOK meths e := List.forall_mem_cons.mpr ⟨mo_X0_init, List.forall_mem_cons.mpr ⟨mo_X0_copyFrom, List.forall_mem_cons.mpr ⟨mo_X0_has, List.forall_mem_cons.mpr ⟨mo_X0_everybody, List.forall_mem_cons.mpr ⟨mo_X0_others, List.forall_mem_cons.mpr ⟨mo_X0_add, List.forall_mem_cons.mpr ⟨mo_X0_word, List.forall_mem_cons.mpr ⟨mo_X0_mean, List.forall_mem_cons.mpr ⟨mo_X0_passWeek, List.forall_mem_cons.mpr ⟨mo_X0_passWeeks, List.forall_mem_cons.mpr ⟨mo_X0_unlike, List.forall_mem_cons.mpr ⟨mo_X0_allErrors, List.forall_mem_cons.mpr ⟨mo_X0_fooledBy, List.forall_mem_cons.mpr ⟨mo_X0_apart, List.forall_mem_cons.mpr ⟨mo_X0_width, List.forall_mem_cons.mpr ⟨mo_X0_sources, List.forall_mem_cons.mpr ⟨mo_X0_allAskEachOther, List.forall_mem_cons.mpr ⟨mo_X0_untruth, List.forall_mem_cons.mpr ⟨mo_X0_askByLot, List.forall_mem_cons.mpr ⟨mo_X0_sum, List.forall_mem_cons.mpr ⟨mo_X1_init, List.forall_mem_cons.mpr ⟨mo_X1_add, List.forall_mem_cons.mpr ⟨mo_X1_read, List.forall_mem_cons.mpr ⟨mo_X1_digitsBehind, List.forall_mem_cons.mpr ⟨mo_X1_faultOfForm, List.forall_mem_cons.mpr ⟨mo_X1_digit, List.forall_mem_cons.mpr ⟨mo_X1_twoDigits, List.forall_mem_cons.mpr ⟨mo_X1_comesTrue, List.forall_mem_cons.mpr ⟨mo_X1_onePersonMore, List.forall_mem_cons.mpr ⟨mo_X1_oneAsks, List.forall_mem_cons.mpr ⟨mo_X1_oneBelieves, List.forall_mem_cons.mpr ⟨mo_X1_wayGoes, List.forall_mem_cons.mpr ⟨mo_X1_thingHangs, List.forall_mem_cons.mpr ⟨mo_X1_weeksPass, List.forall_mem_cons.mpr ⟨mo_X2_next, List.forall_mem_cons.mpr ⟨mo_X2_reach, List.forall_mem_cons.mpr ⟨mo_X2_distance, List.forall_mem_cons.mpr ⟨mo_X2_farthest, List.forall_mem_cons.mpr ⟨mo_X3_init, List.forall_mem_cons.mpr ⟨mo_X3_keep, fun _ h => absurd h List.not_mem_nil⟩⟩⟩⟩⟩⟩⟩⟩⟩⟩⟩⟩⟩⟩⟩⟩⟩⟩⟩⟩⟩⟩⟩⟩⟩⟩⟩⟩⟩⟩⟩⟩⟩⟩⟩⟩⟩⟩⟩⟩
theorem meths_1_ok : ∀ e ∈ meths_1, MeOK meths e := List.forall_mem_cons.mpr ⟨mo_X3_dropOldest, List.forall_mem_cons.mpr ⟨mo_X3_takeBack, List.forall_mem_cons.mpr ⟨mo_X4_init, List.forall_mem_cons.mpr ⟨mo_X4_copyFrom, List.forall_mem_cons.mpr ⟨mo_X4_join, List.forall_mem_cons.mpr ⟨mo_X4_countWays, List.forall_mem_cons.mpr ⟨mo_X4_glancesAt, List.forall_mem_cons.mpr ⟨mo_X4_bare, List.forall_mem_cons.mpr ⟨mo_X4_route, List.forall_mem_cons.mpr ⟨mo_X4_goOnFrom, List.forall_mem_cons.mpr ⟨mo_X4_routeCovered, List.forall_mem_cons.mpr ⟨mo_X5_init, List.forall_mem_cons.mpr ⟨mo_X5_copyFrom, List.forall_mem_cons.mpr ⟨mo_X6_init, List.forall_mem_cons.mpr ⟨mo_X6_refuse, List.forall_mem_cons.mpr ⟨mo_X6_first, List.forall_mem_cons.mpr ⟨mo_X6_noPerson, List.forall_mem_cons.mpr ⟨mo_X6_noTwo, List.forall_mem_cons.mpr ⟨mo_X6_noPlace, List.forall_mem_cons.mpr ⟨mo_X6_noPlaces, List.forall_mem_cons.mpr ⟨mo_X6_noChoice, List.forall_mem_cons.mpr ⟨mo_X6_outside, List.forall_mem_cons.mpr ⟨mo_X6_outside_, List.forall_mem_cons.mpr ⟨mo_X6_asksNobody, List.forall_mem_cons.mpr ⟨mo_X6_rowTooLong, List.forall_mem_cons.mpr ⟨mo_X6_isPlace, List.forall_mem_cons.mpr ⟨mo_X6_holds, List.forall_mem_cons.mpr ⟨mo_X6_fewer, List.forall_mem_cons.mpr ⟨mo_X6_leastOf, List.forall_mem_cons.mpr ⟨mo_X6_ahead, List.forall_mem_cons.mpr ⟨mo_X6_feed, List.forall_mem_cons.mpr ⟨mo_X6_town, List.forall_mem_cons.mpr ⟨mo_X6_person, List.forall_mem_cons.mpr ⟨mo_X6_comes, List.forall_mem_cons.mpr ⟨mo_X6_asks, List.forall_mem_cons.mpr ⟨mo_X6_believes, List.forall_mem_cons.mpr ⟨mo_X6_kind, List.forall_mem_cons.mpr ⟨mo_X6_way, List.forall_mem_cons.mpr ⟨mo_X6_hangs, List.forall_mem_cons.mpr ⟨mo_X6_week, fun _ h => absurd h List.not_mem_nil⟩⟩⟩⟩⟩⟩⟩⟩⟩⟩⟩⟩⟩⟩⟩⟩⟩⟩⟩⟩⟩⟩⟩⟩⟩⟩⟩⟩⟩⟩⟩⟩⟩⟩⟩⟩⟩⟩⟩⟩
theorem meths_2_ok : ∀ e ∈ meths_2, MeOK meths e := List.forall_mem_cons.mpr ⟨mo_X6_back, List.forall_mem_cons.mpr ⟨mo_X6_says, List.forall_mem_cons.mpr ⟨mo_X6_saysOf, List.forall_mem_cons.mpr ⟨mo_X6_belief, List.forall_mem_cons.mpr ⟨mo_X6_fooled, List.forall_mem_cons.mpr ⟨mo_X6_error, List.forall_mem_cons.mpr ⟨mo_X6_clash, List.forall_mem_cons.mpr ⟨mo_X6_settles, List.forall_mem_cons.mpr ⟨mo_X6_round, List.forall_mem_cons.mpr ⟨mo_X6_knows, List.forall_mem_cons.mpr ⟨mo_X6_nearest, List.forall_mem_cons.mpr ⟨mo_X6_errorBySet, List.forall_mem_cons.mpr ⟨mo_X6_fair, List.forall_mem_cons.mpr ⟨mo_X6_worth, List.forall_mem_cons.mpr ⟨mo_X6_newEar, List.forall_mem_cons.mpr ⟨mo_X6_errorsWithEar, List.forall_mem_cons.mpr ⟨mo_X6_sisters, List.forall_mem_cons.mpr ⟨mo_X6_cheat, List.forall_mem_cons.mpr ⟨mo_X6_fitsRow, List.forall_mem_cons.mpr ⟨mo_X6_thief, List.forall_mem_cons.mpr ⟨mo_X6_suspects, List.forall_mem_cons.mpr ⟨mo_X6_tellsMost, List.forall_mem_cons.mpr ⟨mo_X6_kindsOfWords, List.forall_mem_cons.mpr ⟨mo_X6_photos, List.forall_mem_cons.mpr ⟨mo_X6_fillCosts, List.forall_mem_cons.mpr ⟨mo_X6_costWith, List.forall_mem_cons.mpr ⟨mo_X6_photoOf, List.forall_mem_cons.mpr ⟨mo_X6_firstPhoto, List.forall_mem_cons.mpr ⟨mo_X6_barber, List.forall_mem_cons.mpr ⟨mo_X6_steps, List.forall_mem_cons.mpr ⟨mo_X6_glances, List.forall_mem_cons.mpr ⟨mo_X6_unseen, List.forall_mem_cons.mpr ⟨mo_X6_cover, List.forall_mem_cons.mpr ⟨mo_X6_bargain, List.forall_mem_cons.mpr ⟨mo_X6_townShare, List.forall_mem_cons.mpr ⟨mo_X6_strike, List.forall_mem_cons.mpr ⟨mo_X6_echo, List.forall_mem_cons.mpr ⟨mo_X6_loops, List.forall_mem_cons.mpr ⟨mo_X6_humble, List.forall_mem_cons.mpr ⟨mo_X6_aheadWithFigure, fun _ h => absurd h List.not_mem_nil⟩⟩⟩⟩⟩⟩⟩⟩⟩⟩⟩⟩⟩⟩⟩⟩⟩⟩⟩⟩⟩⟩⟩⟩⟩⟩⟩⟩⟩⟩⟩⟩⟩⟩⟩⟩⟩⟩⟩⟩
theorem meths_3_ok : ∀ e ∈ meths_3, MeOK meths e := List.forall_mem_cons.mpr ⟨mo_X6_highest, List.forall_mem_cons.mpr ⟨mo_X6_spread, List.forall_mem_cons.mpr ⟨mo_X6_pairs, List.forall_mem_cons.mpr ⟨mo_X6_calm, List.forall_mem_cons.mpr ⟨mo_X6_honest, List.forall_mem_cons.mpr ⟨mo_X6_chain, List.forall_mem_cons.mpr ⟨mo_X6_clique, List.forall_mem_cons.mpr ⟨mo_X6_cut, List.forall_mem_cons.mpr ⟨mo_X6_wanted, List.forall_mem_cons.mpr ⟨mo_X6_panel, List.forall_mem_cons.mpr ⟨mo_X6_tour, List.forall_mem_cons.mpr ⟨mo_X6_hasSeen, List.forall_mem_cons.mpr ⟨mo_X6_stepOn, List.forall_mem_cons.mpr ⟨mo_X6_narrows, List.forall_mem_cons.mpr ⟨mo_X6_middle, List.forall_mem_cons.mpr ⟨mo_X6_changed, List.forall_mem_cons.mpr ⟨mo_X6_row, List.forall_mem_cons.mpr ⟨mo_X6_judge, List.forall_mem_cons.mpr ⟨mo_X6_clear, List.forall_mem_cons.mpr ⟨mo_X6_lots, List.forall_mem_cons.mpr ⟨mo_X6_image, List.forall_mem_cons.mpr ⟨mo_X6_restore, List.forall_mem_cons.mpr ⟨mo_X6_count, List.forall_mem_cons.mpr ⟨mo_X7_init, List.forall_mem_cons.mpr ⟨mo_X7_no, List.forall_mem_cons.mpr ⟨mo_X7_lower, List.forall_mem_cons.mpr ⟨mo_X7_isIn, List.forall_mem_cons.mpr ⟨mo_X7_bound, List.forall_mem_cons.mpr ⟨mo_X7_has, List.forall_mem_cons.mpr ⟨mo_X7_bits, List.forall_mem_cons.mpr ⟨mo_X7_far, List.forall_mem_cons.mpr ⟨mo_X7_isPerson, List.forall_mem_cons.mpr ⟨mo_X7_areTwo, List.forall_mem_cons.mpr ⟨mo_X7_isPlace, List.forall_mem_cons.mpr ⟨mo_X7_all, List.forall_mem_cons.mpr ⟨mo_X7_feed, List.forall_mem_cons.mpr ⟨mo_X7_next, List.forall_mem_cons.mpr ⟨mo_X7_readsDigits, List.forall_mem_cons.mpr ⟨mo_X7_readsAll, List.forall_mem_cons.mpr ⟨mo_X7_statement, fun _ h => absurd h List.not_mem_nil⟩⟩⟩⟩⟩⟩⟩⟩⟩⟩⟩⟩⟩⟩⟩⟩⟩⟩⟩⟩⟩⟩⟩⟩⟩⟩⟩⟩⟩⟩⟩⟩⟩⟩⟩⟩⟩⟩⟩⟩
theorem meths_4_ok : ∀ e ∈ meths_4, MeOK meths e := List.forall_mem_cons.mpr ⟨mo_X7_comes, List.forall_mem_cons.mpr ⟨mo_X7_town, List.forall_mem_cons.mpr ⟨mo_X7_passes, List.forall_mem_cons.mpr ⟨mo_X7_passOne, List.forall_mem_cons.mpr ⟨mo_X7_passesAll, List.forall_mem_cons.mpr ⟨mo_X7_thinks, List.forall_mem_cons.mpr ⟨mo_X7_forgets, List.forall_mem_cons.mpr ⟨mo_X7_keepsBack, List.forall_mem_cons.mpr ⟨mo_X7_back, List.forall_mem_cons.mpr ⟨mo_X7_image, List.forall_mem_cons.mpr ⟨mo_X7_restore, List.forall_mem_cons.mpr ⟨mo_X7_adds, List.forall_mem_cons.mpr ⟨mo_X7_held, List.forall_mem_cons.mpr ⟨mo_X7_saidOf, List.forall_mem_cons.mpr ⟨mo_X7_meanOf, List.forall_mem_cons.mpr ⟨mo_X7_goesWeek, List.forall_mem_cons.mpr ⟨mo_X7_turnsWay, List.forall_mem_cons.mpr ⟨mo_X7_person, List.forall_mem_cons.mpr ⟨mo_X7_comes_, List.forall_mem_cons.mpr ⟨mo_X7_asks, List.forall_mem_cons.mpr ⟨mo_X7_believes, List.forall_mem_cons.mpr ⟨mo_X7_kind, List.forall_mem_cons.mpr ⟨mo_X7_way, List.forall_mem_cons.mpr ⟨mo_X7_hangs, List.forall_mem_cons.mpr ⟨mo_X7_week, List.forall_mem_cons.mpr ⟨mo_X7_says, List.forall_mem_cons.mpr ⟨mo_X7_saysOf, List.forall_mem_cons.mpr ⟨mo_X7_findWeeks, List.forall_mem_cons.mpr ⟨mo_X7_notWeeks, List.forall_mem_cons.mpr ⟨mo_X7_beliefAt, List.forall_mem_cons.mpr ⟨mo_X7_belief, List.forall_mem_cons.mpr ⟨mo_X7_fooledAt, List.forall_mem_cons.mpr ⟨mo_X7_errorAt, List.forall_mem_cons.mpr ⟨mo_X7_errorBehind, List.forall_mem_cons.mpr ⟨mo_X7_fooled, List.forall_mem_cons.mpr ⟨mo_X7_error, List.forall_mem_cons.mpr ⟨mo_X7_first, List.forall_mem_cons.mpr ⟨mo_X7_clash, List.forall_mem_cons.mpr ⟨mo_X7_areAlike, List.forall_mem_cons.mpr ⟨mo_X7_settles, fun _ h => absurd h List.not_mem_nil⟩⟩⟩⟩⟩⟩⟩⟩⟩⟩⟩⟩⟩⟩⟩⟩⟩⟩⟩⟩⟩⟩⟩⟩⟩⟩⟩⟩⟩⟩⟩⟩⟩⟩⟩⟩⟩⟩⟩⟩
theorem meths_5_ok : ∀ e ∈ meths_5, MeOK meths e := List.forall_mem_cons.mpr ⟨mo_X7_round, List.forall_mem_cons.mpr ⟨mo_X7_others, List.forall_mem_cons.mpr ⟨mo_X7_isOf, List.forall_mem_cons.mpr ⟨mo_X7_errorOf, List.forall_mem_cons.mpr ⟨mo_X7_knows, List.forall_mem_cons.mpr ⟨mo_X7_nearest, List.forall_mem_cons.mpr ⟨mo_X7_fair, List.forall_mem_cons.mpr ⟨mo_X7_worth, List.forall_mem_cons.mpr ⟨mo_X7_newEar, List.forall_mem_cons.mpr ⟨mo_X7_sisters, List.forall_mem_cons.mpr ⟨mo_X7_believesWith, List.forall_mem_cons.mpr ⟨mo_X7_cheat, List.forall_mem_cons.mpr ⟨mo_X7_barber, List.forall_mem_cons.mpr ⟨mo_X7_fits, List.forall_mem_cons.mpr ⟨mo_X7_thief, List.forall_mem_cons.mpr ⟨mo_X7_kindsBy, List.forall_mem_cons.mpr ⟨mo_X7_tellsMost, List.forall_mem_cons.mpr ⟨mo_X7_findPhotos, List.forall_mem_cons.mpr ⟨mo_X7_photoOf, List.forall_mem_cons.mpr ⟨mo_X7_photos, List.forall_mem_cons.mpr ⟨mo_X7_glanceOf, List.forall_mem_cons.mpr ⟨mo_X7_findWays, List.forall_mem_cons.mpr ⟨mo_X7_steps, List.forall_mem_cons.mpr ⟨mo_X7_glances, List.forall_mem_cons.mpr ⟨mo_X7_unseen, List.forall_mem_cons.mpr ⟨mo_X7_cover, List.forall_mem_cons.mpr ⟨mo_X7_hoursIn, List.forall_mem_cons.mpr ⟨mo_X7_townHas, List.forall_mem_cons.mpr ⟨mo_X7_bargain, List.forall_mem_cons.mpr ⟨mo_X7_strike, List.forall_mem_cons.mpr ⟨mo_X7_heardBy, List.forall_mem_cons.mpr ⟨mo_X7_echo, List.forall_mem_cons.mpr ⟨mo_X7_loops, List.forall_mem_cons.mpr ⟨mo_X7_humble, List.forall_mem_cons.mpr ⟨mo_X7_highest, List.forall_mem_cons.mpr ⟨mo_X7_spread, List.forall_mem_cons.mpr ⟨mo_X7_pairs, List.forall_mem_cons.mpr ⟨mo_X7_isCalm, List.forall_mem_cons.mpr ⟨mo_X7_calm, List.forall_mem_cons.mpr ⟨mo_X7_untrue, fun _ h => absurd h List.not_mem_nil⟩⟩⟩⟩⟩⟩⟩⟩⟩⟩⟩⟩⟩⟩⟩⟩⟩⟩⟩⟩⟩⟩⟩⟩⟩⟩⟩⟩⟩⟩⟩⟩⟩⟩⟩⟩⟩⟩⟩⟩
theorem meths_6_ok : ∀ e ∈ meths_6, MeOK meths e := List.forall_mem_cons.mpr ⟨mo_X7_honest, List.forall_mem_cons.mpr ⟨mo_X7_chainOf, List.forall_mem_cons.mpr ⟨mo_X7_chain, List.forall_mem_cons.mpr ⟨mo_X7_isClique, List.forall_mem_cons.mpr ⟨mo_X7_clique, List.forall_mem_cons.mpr ⟨mo_X7_cut, List.forall_mem_cons.mpr ⟨mo_X7_wanted, List.forall_mem_cons.mpr ⟨mo_X7_panel, List.forall_mem_cons.mpr ⟨mo_X7_changed, List.forall_mem_cons.mpr ⟨mo_X7_tour, List.forall_mem_cons.mpr ⟨mo_X7_stepsOn, List.forall_mem_cons.mpr ⟨mo_X7_isWayWithout, List.forall_mem_cons.mpr ⟨mo_X7_narrows, List.forall_mem_cons.mpr ⟨mo_X7_farthest, List.forall_mem_cons.mpr ⟨mo_X7_middle, List.forall_mem_cons.mpr ⟨mo_X7_row, List.forall_mem_cons.mpr ⟨mo_X7_judge, List.forall_mem_cons.mpr ⟨mo_X7_clear, List.forall_mem_cons.mpr ⟨mo_X7_lots, List.forall_mem_cons.mpr ⟨mo_X7_count, List.forall_mem_cons.mpr ⟨mo_J6_bitCount_0f7a4, List.forall_mem_cons.mpr ⟨mo_J7_fill_53178, fun _ h => absurd h List.not_mem_nil⟩⟩⟩⟩⟩⟩⟩⟩⟩⟩⟩⟩⟩⟩⟩⟩⟩⟩⟩⟩⟩⟩
theorem meths_in : ∀ e ∈ meths, MeOK meths e := fun q h0 => (List.mem_append.mp h0).elim (meths_0_ok q) (fun h1 => (List.mem_append.mp h1).elim (meths_1_ok q) (fun h2 => (List.mem_append.mp h2).elim (meths_2_ok q) (fun h3 => (List.mem_append.mp h3).elim (meths_3_ok q) (fun h4 => (List.mem_append.mp h4).elim (meths_4_ok q) (fun h5 => (List.mem_append.mp h5).elim (meths_5_ok q) (fun h6 => meths_6_ok q h6))))))
theorem meths_ok : ∀ (i : Nat) (me : ME), meths[i]? = some me → MeOK meths me := fun i me h => meths_in me (List.mem_of_getElem? h)
