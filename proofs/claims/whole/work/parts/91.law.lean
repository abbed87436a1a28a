def f_law (scr : Option (Nat × (Nat → Int32))) : M Int32 := loopK NF (fun (s1 : Int32) k2 => bnd (scrN scr) fun t3 => if (t3 - (5 : Int32)) < s1 then retZ (1 : Int32) else bnd (scrM scr s1) fun t4 => if (t4 &&& (63 : Int32)) = (0 : Int32) then bnd (scrM scr (s1 + (1 : Int32))) fun t6 => bnd (cv 5 0 (f_X6_feed 0 t6)) fun t7 => bnd (scrM scr (s1 + (1 : Int32))) fun t9 => bnd (cv 6 110 (f_X7_feed 110 t9)) fun t10 => if t7 = t10 then k2 (s1 + (5 : Int32)) else retZ (0 : Int32) else if (t4 &&& (63 : Int32)) = (1 : Int32) then bnd (cv 5 0 (f_X6_town 0)) fun t13 => bnd (cv 6 110 (f_X7_town 110)) fun t15 => if t13 = t15 then k2 (s1 + (5 : Int32)) else retZ (0 : Int32) else if (t4 &&& (63 : Int32)) = (2 : Int32) then bnd (scrM scr (s1 + (1 : Int32))) fun t18 => bnd (scrM scr (s1 + (2 : Int32))) fun t19 => bnd (cv 5 0 (f_X6_person 0 t18 t19)) fun t20 => bnd (scrM scr (s1 + (1 : Int32))) fun t22 => bnd (scrM scr (s1 + (2 : Int32))) fun t23 => bnd (cv 6 110 (f_X7_person 110 t22 t23)) fun t24 => if t20 = t24 then k2 (s1 + (5 : Int32)) else retZ (0 : Int32) else if (t4 &&& (63 : Int32)) = (3 : Int32) then bnd (scrM scr (s1 + (1 : Int32))) fun t27 => bnd (scrM scr (s1 + (2 : Int32))) fun t28 => bnd (scrM scr (s1 + (3 : Int32))) fun t29 => bnd (cv 5 0 (f_X6_comes 0 t27 t28 t29)) fun t30 => bnd (scrM scr (s1 + (1 : Int32))) fun t32 => bnd (scrM scr (s1 + (2 : Int32))) fun t33 => bnd (scrM scr (s1 + (3 : Int32))) fun t34 => bnd (cv 6 110 (f_X7_comes_ 110 t32 t33 t34)) fun t35 => if t30 = t35 then k2 (s1 + (5 : Int32)) else retZ (0 : Int32) else if (t4 &&& (63 : Int32)) = (4 : Int32) then bnd (scrM scr (s1 + (1 : Int32))) fun t38 => bnd (scrM scr (s1 + (2 : Int32))) fun t39 => bnd (cv 5 0 (f_X6_asks 0 t38 t39)) fun t40 => bnd (scrM scr (s1 + (1 : Int32))) fun t42 => bnd (scrM scr (s1 + (2 : Int32))) fun t43 => bnd (cv 6 110 (f_X7_asks 110 t42 t43)) fun t44 => if t40 = t44 then k2 (s1 + (5 : Int32)) else retZ (0 : Int32) else if (t4 &&& (63 : Int32)) = (5 : Int32) then bnd (scrM scr (s1 + (1 : Int32))) fun t47 => bnd (scrM scr (s1 + (2 : Int32))) fun t48 => bnd (cv 5 0 (f_X6_believes 0 t47 t48)) fun t49 => bnd (scrM scr (s1 + (1 : Int32))) fun t51 => bnd (scrM scr (s1 + (2 : Int32))) fun t52 => bnd (cv 6 110 (f_X7_believes 110 t51 t52)) fun t53 => if t49 = t53 then k2 (s1 + (5 : Int32)) else retZ (0 : Int32) else if (t4 &&& (63 : Int32)) = (6 : Int32) then bnd (scrM scr (s1 + (1 : Int32))) fun t56 => bnd (scrM scr (s1 + (2 : Int32))) fun t57 => bnd (scrM scr (s1 + (3 : Int32))) fun t58 => bnd (cv 5 0 (f_X6_kind 0 t56 t57 t58)) fun t59 => bnd (scrM scr (s1 + (1 : Int32))) fun t61 => bnd (scrM scr (s1 + (2 : Int32))) fun t62 => bnd (scrM scr (s1 + (3 : Int32))) fun t63 => bnd (cv 6 110 (f_X7_kind 110 t61 t62 t63)) fun t64 => if t59 = t64 then k2 (s1 + (5 : Int32)) else retZ (0 : Int32) else if (t4 &&& (63 : Int32)) = (7 : Int32) then bnd (scrM scr (s1 + (1 : Int32))) fun t67 => bnd (scrM scr (s1 + (2 : Int32))) fun t68 => bnd (cv 5 0 (f_X6_way 0 t67 t68)) fun t69 => bnd (scrM scr (s1 + (1 : Int32))) fun t71 => bnd (scrM scr (s1 + (2 : Int32))) fun t72 => bnd (cv 6 110 (f_X7_way 110 t71 t72)) fun t73 => if t69 = t73 then k2 (s1 + (5 : Int32)) else retZ (0 : Int32) else if (t4 &&& (63 : Int32)) = (8 : Int32) then bnd (scrM scr (s1 + (1 : Int32))) fun t76 => bnd (scrM scr (s1 + (2 : Int32))) fun t77 => bnd (cv 5 0 (f_X6_hangs 0 t76 t77)) fun t78 => bnd (scrM scr (s1 + (1 : Int32))) fun t80 => bnd (scrM scr (s1 + (2 : Int32))) fun t81 => bnd (cv 6 110 (f_X7_hangs 110 t80 t81)) fun t82 => if t78 = t82 then k2 (s1 + (5 : Int32)) else retZ (0 : Int32) else if (t4 &&& (63 : Int32)) = (9 : Int32) then bnd (cv 5 0 (f_X6_week 0)) fun t85 => bnd (cv 6 110 (f_X7_week 110)) fun t87 => if t85 = t87 then k2 (s1 + (5 : Int32)) else retZ (0 : Int32) else if (t4 &&& (63 : Int32)) = (10 : Int32) then bnd (cv 5 0 (f_X6_back 0)) fun t90 => bnd (cv 6 110 (f_X7_back 110)) fun t92 => if t90 = t92 then k2 (s1 + (5 : Int32)) else retZ (0 : Int32) else if (t4 &&& (63 : Int32)) = (11 : Int32) then bnd (scrM scr (s1 + (1 : Int32))) fun t95 => bnd (scrM scr (s1 + (2 : Int32))) fun t96 => bnd (cv 5 0 (f_X6_says 0 t95 t96)) fun t97 => bnd (scrM scr (s1 + (1 : Int32))) fun t99 => bnd (scrM scr (s1 + (2 : Int32))) fun t100 => bnd (cv 6 110 (f_X7_says 110 t99 t100)) fun t101 => if t97 = t101 then k2 (s1 + (5 : Int32)) else retZ (0 : Int32) else if (t4 &&& (63 : Int32)) = (12 : Int32) then bnd (scrM scr (s1 + (1 : Int32))) fun t104 => bnd (scrM scr (s1 + (2 : Int32))) fun t105 => bnd (cv 5 0 (f_X6_saysOf 0 t104 t105)) fun t106 => bnd (scrM scr (s1 + (1 : Int32))) fun t108 => bnd (scrM scr (s1 + (2 : Int32))) fun t109 => bnd (cv 6 110 (f_X7_saysOf 110 t108 t109)) fun t110 => if t106 = t110 then k2 (s1 + (5 : Int32)) else retZ (0 : Int32) else if (t4 &&& (63 : Int32)) = (13 : Int32) then bnd (scrM scr (s1 + (1 : Int32))) fun t113 => bnd (scrM scr (s1 + (2 : Int32))) fun t114 => bnd (cv 5 0 (f_X6_belief 0 t113 t114)) fun t115 => bnd (scrM scr (s1 + (1 : Int32))) fun t117 => bnd (scrM scr (s1 + (2 : Int32))) fun t118 => bnd (cv 6 110 (f_X7_belief 110 t117 t118)) fun t119 => if t115 = t119 then k2 (s1 + (5 : Int32)) else retZ (0 : Int32) else if (t4 &&& (63 : Int32)) = (14 : Int32) then bnd (scrM scr (s1 + (1 : Int32))) fun t122 => bnd (scrM scr (s1 + (2 : Int32))) fun t123 => bnd (cv 5 0 (f_X6_fooled 0 t122 t123)) fun t124 => bnd (scrM scr (s1 + (1 : Int32))) fun t126 => bnd (scrM scr (s1 + (2 : Int32))) fun t127 => bnd (cv 6 110 (f_X7_fooled 110 t126 t127)) fun t128 => if t124 = t128 then k2 (s1 + (5 : Int32)) else retZ (0 : Int32) else if (t4 &&& (63 : Int32)) = (15 : Int32) then bnd (scrM scr (s1 + (1 : Int32))) fun t131 => bnd (cv 5 0 (f_X6_error 0 t131)) fun t132 => bnd (scrM scr (s1 + (1 : Int32))) fun t134 => bnd (cv 6 110 (f_X7_error 110 t134)) fun t135 => if t132 = t135 then k2 (s1 + (5 : Int32)) else retZ (0 : Int32) else if (t4 &&& (63 : Int32)) = (16 : Int32) then bnd (scrM scr (s1 + (1 : Int32))) fun t138 => bnd (scrM scr (s1 + (2 : Int32))) fun t139 => bnd (cv 5 0 (f_X6_clash 0 t138 t139)) fun t140 => bnd (scrM scr (s1 + (1 : Int32))) fun t142 => bnd (scrM scr (s1 + (2 : Int32))) fun t143 => bnd (cv 6 110 (f_X7_clash 110 t142 t143)) fun t144 => if t140 = t144 then k2 (s1 + (5 : Int32)) else retZ (0 : Int32) else if (t4 &&& (63 : Int32)) = (17 : Int32) then bnd (cv 5 0 (f_X6_settles 0)) fun t147 => bnd (cv 6 110 (f_X7_settles 110)) fun t149 => if t147 = t149 then k2 (s1 + (5 : Int32)) else retZ (0 : Int32) else if (t4 &&& (63 : Int32)) = (18 : Int32) then bnd (cv 5 0 (f_X6_round 0)) fun t152 => bnd (cv 6 110 (f_X7_round 110)) fun t154 => if t152 = t154 then k2 (s1 + (5 : Int32)) else retZ (0 : Int32) else if (t4 &&& (63 : Int32)) = (19 : Int32) then bnd (scrM scr (s1 + (1 : Int32))) fun t157 => bnd (cv 5 0 (f_X6_knows 0 t157)) fun t158 => bnd (scrM scr (s1 + (1 : Int32))) fun t160 => bnd (cv 6 110 (f_X7_knows 110 t160)) fun t161 => if t158 = t161 then k2 (s1 + (5 : Int32)) else retZ (0 : Int32) else if (t4 &&& (63 : Int32)) = (20 : Int32) then bnd (scrM scr (s1 + (1 : Int32))) fun t164 => bnd (scrM scr (s1 + (2 : Int32))) fun t165 => bnd (cv 5 0 (f_X6_nearest 0 t164 t165)) fun t166 => bnd (scrM scr (s1 + (1 : Int32))) fun t168 => bnd (scrM scr (s1 + (2 : Int32))) fun t169 => bnd (cv 6 110 (f_X7_nearest 110 t168 t169)) fun t170 => if t166 = t170 then k2 (s1 + (5 : Int32)) else retZ (0 : Int32) else if (t4 &&& (63 : Int32)) = (21 : Int32) then bnd (scrM scr (s1 + (1 : Int32))) fun t173 => bnd (scrM scr (s1 + (2 : Int32))) fun t174 => bnd (scrM scr (s1 + (3 : Int32))) fun t175 => bnd (cv 5 0 (f_X6_fair 0 t173 t174 t175)) fun t176 => bnd (scrM scr (s1 + (1 : Int32))) fun t178 => bnd (scrM scr (s1 + (2 : Int32))) fun t179 => bnd (scrM scr (s1 + (3 : Int32))) fun t180 => bnd (cv 6 110 (f_X7_fair 110 t178 t179 t180)) fun t181 => if t176 = t181 then k2 (s1 + (5 : Int32)) else retZ (0 : Int32) else if (t4 &&& (63 : Int32)) = (22 : Int32) then bnd (scrM scr (s1 + (1 : Int32))) fun t184 => bnd (scrM scr (s1 + (2 : Int32))) fun t185 => bnd (cv 5 0 (f_X6_worth 0 t184 t185)) fun t186 => bnd (scrM scr (s1 + (1 : Int32))) fun t188 => bnd (scrM scr (s1 + (2 : Int32))) fun t189 => bnd (cv 6 110 (f_X7_worth 110 t188 t189)) fun t190 => if t186 = t190 then k2 (s1 + (5 : Int32)) else retZ (0 : Int32) else if (t4 &&& (63 : Int32)) = (23 : Int32) then bnd (scrM scr (s1 + (1 : Int32))) fun t193 => bnd (cv 5 0 (f_X6_newEar 0 t193)) fun t194 => bnd (scrM scr (s1 + (1 : Int32))) fun t196 => bnd (cv 6 110 (f_X7_newEar 110 t196)) fun t197 => if t194 = t197 then k2 (s1 + (5 : Int32)) else retZ (0 : Int32) else if (t4 &&& (63 : Int32)) = (24 : Int32) then bnd (scrM scr (s1 + (1 : Int32))) fun t200 => bnd (scrM scr (s1 + (2 : Int32))) fun t201 => bnd (scrM scr (s1 + (3 : Int32))) fun t202 => bnd (scrM scr (s1 + (4 : Int32))) fun t203 => bnd (cv 5 0 (f_X6_sisters 0 t200 t201 t202 t203)) fun t204 => bnd (scrM scr (s1 + (1 : Int32))) fun t206 => bnd (scrM scr (s1 + (2 : Int32))) fun t207 => bnd (scrM scr (s1 + (3 : Int32))) fun t208 => bnd (scrM scr (s1 + (4 : Int32))) fun t209 => bnd (cv 6 110 (f_X7_sisters 110 t206 t207 t208 t209)) fun t210 => if t204 = t210 then k2 (s1 + (5 : Int32)) else retZ (0 : Int32) else if (t4 &&& (63 : Int32)) = (25 : Int32) then bnd (scrM scr (s1 + (1 : Int32))) fun t213 => bnd (scrM scr (s1 + (2 : Int32))) fun t214 => bnd (scrM scr (s1 + (3 : Int32))) fun t215 => bnd (cv 5 0 (f_X6_cheat 0 t213 t214 t215)) fun t216 => bnd (scrM scr (s1 + (1 : Int32))) fun t218 => bnd (scrM scr (s1 + (2 : Int32))) fun t219 => bnd (scrM scr (s1 + (3 : Int32))) fun t220 => bnd (cv 6 110 (f_X7_cheat 110 t218 t219 t220)) fun t221 => if t216 = t221 then k2 (s1 + (5 : Int32)) else retZ (0 : Int32) else if (t4 &&& (63 : Int32)) = (26 : Int32) then bnd (scrM scr (s1 + (1 : Int32))) fun t224 => bnd (cv 5 0 (f_X6_thief 0 t224)) fun t225 => bnd (scrM scr (s1 + (1 : Int32))) fun t227 => bnd (cv 6 110 (f_X7_thief 110 t227)) fun t228 => if t225 = t228 then k2 (s1 + (5 : Int32)) else retZ (0 : Int32) else if (t4 &&& (63 : Int32)) = (27 : Int32) then bnd (scrM scr (s1 + (1 : Int32))) fun t231 => bnd (cv 5 0 (f_X6_tellsMost 0 t231)) fun t232 => bnd (scrM scr (s1 + (1 : Int32))) fun t234 => bnd (cv 6 110 (f_X7_tellsMost 110 t234)) fun t235 => if t232 = t235 then k2 (s1 + (5 : Int32)) else retZ (0 : Int32) else if (t4 &&& (63 : Int32)) = (28 : Int32) then bnd (scrM scr (s1 + (1 : Int32))) fun t238 => bnd (cv 5 0 (f_X6_photos 0 t238)) fun t239 => bnd (scrM scr (s1 + (1 : Int32))) fun t241 => bnd (cv 6 110 (f_X7_photos 110 t241)) fun t242 => if t239 = t242 then k2 (s1 + (5 : Int32)) else retZ (0 : Int32) else if (t4 &&& (63 : Int32)) = (29 : Int32) then bnd (scrM scr (s1 + (1 : Int32))) fun t245 => bnd (scrM scr (s1 + (2 : Int32))) fun t246 => bnd (cv 5 0 (f_X6_barber 0 t245 t246)) fun t247 => bnd (scrM scr (s1 + (1 : Int32))) fun t249 => bnd (scrM scr (s1 + (2 : Int32))) fun t250 => bnd (cv 6 110 (f_X7_barber 110 t249 t250)) fun t251 => if t247 = t251 then k2 (s1 + (5 : Int32)) else retZ (0 : Int32) else if (t4 &&& (63 : Int32)) = (30 : Int32) then bnd (scrM scr (s1 + (1 : Int32))) fun t254 => bnd (scrM scr (s1 + (2 : Int32))) fun t255 => bnd (cv 5 0 (f_X6_steps 0 t254 t255)) fun t256 => bnd (scrM scr (s1 + (1 : Int32))) fun t258 => bnd (scrM scr (s1 + (2 : Int32))) fun t259 => bnd (cv 6 110 (f_X7_steps 110 t258 t259)) fun t260 => if t256 = t260 then k2 (s1 + (5 : Int32)) else retZ (0 : Int32) else if (t4 &&& (63 : Int32)) = (31 : Int32) then bnd (scrM scr (s1 + (1 : Int32))) fun t263 => bnd (scrM scr (s1 + (2 : Int32))) fun t264 => bnd (scrM scr (s1 + (3 : Int32))) fun t265 => bnd (cv 5 0 (f_X6_glances 0 t263 t264 t265)) fun t266 => bnd (scrM scr (s1 + (1 : Int32))) fun t268 => bnd (scrM scr (s1 + (2 : Int32))) fun t269 => bnd (scrM scr (s1 + (3 : Int32))) fun t270 => bnd (cv 6 110 (f_X7_glances 110 t268 t269 t270)) fun t271 => if t266 = t271 then k2 (s1 + (5 : Int32)) else retZ (0 : Int32) else if (t4 &&& (63 : Int32)) = (32 : Int32) then bnd (scrM scr (s1 + (1 : Int32))) fun t274 => bnd (cv 5 0 (f_X6_unseen 0 t274)) fun t275 => bnd (scrM scr (s1 + (1 : Int32))) fun t277 => bnd (cv 6 110 (f_X7_unseen 110 t277)) fun t278 => if t275 = t278 then k2 (s1 + (5 : Int32)) else retZ (0 : Int32) else if (t4 &&& (63 : Int32)) = (33 : Int32) then bnd (scrM scr (s1 + (1 : Int32))) fun t281 => bnd (scrM scr (s1 + (2 : Int32))) fun t282 => bnd (cv 5 0 (f_X6_cover 0 t281 t282)) fun t283 => bnd (scrM scr (s1 + (1 : Int32))) fun t285 => bnd (scrM scr (s1 + (2 : Int32))) fun t286 => bnd (cv 6 110 (f_X7_cover 110 t285 t286)) fun t287 => if t283 = t287 then k2 (s1 + (5 : Int32)) else retZ (0 : Int32) else if (t4 &&& (63 : Int32)) = (34 : Int32) then bnd (scrM scr (s1 + (1 : Int32))) fun t290 => bnd (scrM scr (s1 + (2 : Int32))) fun t291 => bnd (cv 5 0 (f_X6_bargain 0 t290 t291)) fun t292 => bnd (scrM scr (s1 + (1 : Int32))) fun t294 => bnd (scrM scr (s1 + (2 : Int32))) fun t295 => bnd (cv 6 110 (f_X7_bargain 110 t294 t295)) fun t296 => if t292 = t296 then k2 (s1 + (5 : Int32)) else retZ (0 : Int32) else if (t4 &&& (63 : Int32)) = (35 : Int32) then bnd (scrM scr (s1 + (1 : Int32))) fun t299 => bnd (cv 5 0 (f_X6_strike 0 t299)) fun t300 => bnd (scrM scr (s1 + (1 : Int32))) fun t302 => bnd (cv 6 110 (f_X7_strike 110 t302)) fun t303 => if t300 = t303 then k2 (s1 + (5 : Int32)) else retZ (0 : Int32) else if (t4 &&& (63 : Int32)) = (36 : Int32) then bnd (scrM scr (s1 + (1 : Int32))) fun t306 => bnd (cv 5 0 (f_X6_echo 0 t306)) fun t307 => bnd (scrM scr (s1 + (1 : Int32))) fun t309 => bnd (cv 6 110 (f_X7_echo 110 t309)) fun t310 => if t307 = t310 then k2 (s1 + (5 : Int32)) else retZ (0 : Int32) else if (t4 &&& (63 : Int32)) = (37 : Int32) then bnd (scrM scr (s1 + (1 : Int32))) fun t313 => bnd (cv 5 0 (f_X6_loops 0 t313)) fun t314 => bnd (scrM scr (s1 + (1 : Int32))) fun t316 => bnd (cv 6 110 (f_X7_loops 110 t316)) fun t317 => if t314 = t317 then k2 (s1 + (5 : Int32)) else retZ (0 : Int32) else if (t4 &&& (63 : Int32)) = (38 : Int32) then bnd (scrM scr (s1 + (1 : Int32))) fun t320 => bnd (cv 5 0 (f_X6_humble 0 t320)) fun t321 => bnd (scrM scr (s1 + (1 : Int32))) fun t323 => bnd (cv 6 110 (f_X7_humble 110 t323)) fun t324 => if t321 = t324 then k2 (s1 + (5 : Int32)) else retZ (0 : Int32) else if (t4 &&& (63 : Int32)) = (39 : Int32) then bnd (scrM scr (s1 + (1 : Int32))) fun t327 => bnd (scrM scr (s1 + (2 : Int32))) fun t328 => bnd (cv 5 0 (f_X6_highest 0 t327 t328)) fun t329 => bnd (scrM scr (s1 + (1 : Int32))) fun t331 => bnd (scrM scr (s1 + (2 : Int32))) fun t332 => bnd (cv 6 110 (f_X7_highest 110 t331 t332)) fun t333 => if t329 = t333 then k2 (s1 + (5 : Int32)) else retZ (0 : Int32) else if (t4 &&& (63 : Int32)) = (40 : Int32) then bnd (scrM scr (s1 + (1 : Int32))) fun t336 => bnd (cv 5 0 (f_X6_spread 0 t336)) fun t337 => bnd (scrM scr (s1 + (1 : Int32))) fun t339 => bnd (cv 6 110 (f_X7_spread 110 t339)) fun t340 => if t337 = t340 then k2 (s1 + (5 : Int32)) else retZ (0 : Int32) else if (t4 &&& (63 : Int32)) = (41 : Int32) then bnd (cv 5 0 (f_X6_pairs 0)) fun t343 => bnd (cv 6 110 (f_X7_pairs 110)) fun t345 => if t343 = t345 then k2 (s1 + (5 : Int32)) else retZ (0 : Int32) else if (t4 &&& (63 : Int32)) = (42 : Int32) then bnd (scrM scr (s1 + (1 : Int32))) fun t348 => bnd (cv 5 0 (f_X6_calm 0 t348)) fun t349 => bnd (scrM scr (s1 + (1 : Int32))) fun t351 => bnd (cv 6 110 (f_X7_calm 110 t351)) fun t352 => if t349 = t352 then k2 (s1 + (5 : Int32)) else retZ (0 : Int32) else if (t4 &&& (63 : Int32)) = (43 : Int32) then bnd (scrM scr (s1 + (1 : Int32))) fun t355 => bnd (cv 5 0 (f_X6_honest 0 t355)) fun t356 => bnd (scrM scr (s1 + (1 : Int32))) fun t358 => bnd (cv 6 110 (f_X7_honest 110 t358)) fun t359 => if t356 = t359 then k2 (s1 + (5 : Int32)) else retZ (0 : Int32) else if (t4 &&& (63 : Int32)) = (44 : Int32) then bnd (scrM scr (s1 + (1 : Int32))) fun t362 => bnd (scrM scr (s1 + (2 : Int32))) fun t363 => bnd (cv 5 0 (f_X6_chain 0 t362 t363)) fun t364 => bnd (scrM scr (s1 + (1 : Int32))) fun t366 => bnd (scrM scr (s1 + (2 : Int32))) fun t367 => bnd (cv 6 110 (f_X7_chain 110 t366 t367)) fun t368 => if t364 = t368 then k2 (s1 + (5 : Int32)) else retZ (0 : Int32) else if (t4 &&& (63 : Int32)) = (45 : Int32) then bnd (cv 5 0 (f_X6_clique 0)) fun t371 => bnd (cv 6 110 (f_X7_clique 110)) fun t373 => if t371 = t373 then k2 (s1 + (5 : Int32)) else retZ (0 : Int32) else if (t4 &&& (63 : Int32)) = (46 : Int32) then bnd (scrM scr (s1 + (1 : Int32))) fun t376 => bnd (scrM scr (s1 + (2 : Int32))) fun t377 => bnd (cv 5 0 (f_X6_cut 0 t376 t377)) fun t378 => bnd (scrM scr (s1 + (1 : Int32))) fun t380 => bnd (scrM scr (s1 + (2 : Int32))) fun t381 => bnd (cv 6 110 (f_X7_cut 110 t380 t381)) fun t382 => if t378 = t382 then k2 (s1 + (5 : Int32)) else retZ (0 : Int32) else if (t4 &&& (63 : Int32)) = (47 : Int32) then bnd (scrM scr (s1 + (1 : Int32))) fun t385 => bnd (scrM scr (s1 + (2 : Int32))) fun t386 => bnd (cv 5 0 (f_X6_wanted 0 t385 t386)) fun t387 => bnd (scrM scr (s1 + (1 : Int32))) fun t389 => bnd (scrM scr (s1 + (2 : Int32))) fun t390 => bnd (cv 6 110 (f_X7_wanted 110 t389 t390)) fun t391 => if t387 = t391 then k2 (s1 + (5 : Int32)) else retZ (0 : Int32) else if (t4 &&& (63 : Int32)) = (48 : Int32) then bnd (scrM scr (s1 + (1 : Int32))) fun t394 => bnd (scrM scr (s1 + (2 : Int32))) fun t395 => bnd (cv 5 0 (f_X6_panel 0 t394 t395)) fun t396 => bnd (scrM scr (s1 + (1 : Int32))) fun t398 => bnd (scrM scr (s1 + (2 : Int32))) fun t399 => bnd (cv 6 110 (f_X7_panel 110 t398 t399)) fun t400 => if t396 = t400 then k2 (s1 + (5 : Int32)) else retZ (0 : Int32) else if (t4 &&& (63 : Int32)) = (49 : Int32) then bnd (scrM scr (s1 + (1 : Int32))) fun t403 => bnd (scrM scr (s1 + (2 : Int32))) fun t404 => bnd (cv 5 0 (f_X6_tour 0 t403 t404)) fun t405 => bnd (scrM scr (s1 + (1 : Int32))) fun t407 => bnd (scrM scr (s1 + (2 : Int32))) fun t408 => bnd (cv 6 110 (f_X7_tour 110 t407 t408)) fun t409 => if t405 = t409 then k2 (s1 + (5 : Int32)) else retZ (0 : Int32) else if (t4 &&& (63 : Int32)) = (50 : Int32) then bnd (scrM scr (s1 + (1 : Int32))) fun t412 => bnd (scrM scr (s1 + (2 : Int32))) fun t413 => bnd (cv 5 0 (f_X6_narrows 0 t412 t413)) fun t414 => bnd (scrM scr (s1 + (1 : Int32))) fun t416 => bnd (scrM scr (s1 + (2 : Int32))) fun t417 => bnd (cv 6 110 (f_X7_narrows 110 t416 t417)) fun t418 => if t414 = t418 then k2 (s1 + (5 : Int32)) else retZ (0 : Int32) else if (t4 &&& (63 : Int32)) = (51 : Int32) then bnd (scrM scr (s1 + (1 : Int32))) fun t421 => bnd (scrM scr (s1 + (2 : Int32))) fun t422 => bnd (cv 5 0 (f_X6_middle 0 t421 t422)) fun t423 => bnd (scrM scr (s1 + (1 : Int32))) fun t425 => bnd (scrM scr (s1 + (2 : Int32))) fun t426 => bnd (cv 6 110 (f_X7_middle 110 t425 t426)) fun t427 => if t423 = t427 then k2 (s1 + (5 : Int32)) else retZ (0 : Int32) else if (t4 &&& (63 : Int32)) = (52 : Int32) then bnd (scrM scr (s1 + (1 : Int32))) fun t430 => bnd (scrM scr (s1 + (2 : Int32))) fun t431 => bnd (scrM scr (s1 + (3 : Int32))) fun t432 => bnd (cv 5 0 (f_X6_changed 0 t430 t431 t432)) fun t433 => bnd (scrM scr (s1 + (1 : Int32))) fun t435 => bnd (scrM scr (s1 + (2 : Int32))) fun t436 => bnd (scrM scr (s1 + (3 : Int32))) fun t437 => bnd (cv 6 110 (f_X7_changed 110 t435 t436 t437)) fun t438 => if t433 = t438 then k2 (s1 + (5 : Int32)) else retZ (0 : Int32) else if (t4 &&& (63 : Int32)) = (53 : Int32) then bnd (scrM scr (s1 + (1 : Int32))) fun t441 => bnd (cv 5 0 (f_X6_row 0 t441)) fun t442 => bnd (scrM scr (s1 + (1 : Int32))) fun t444 => bnd (cv 6 110 (f_X7_row 110 t444)) fun t445 => if t442 = t445 then k2 (s1 + (5 : Int32)) else retZ (0 : Int32) else if (t4 &&& (63 : Int32)) = (54 : Int32) then bnd (cv 5 0 (f_X6_judge 0)) fun t448 => bnd (cv 6 110 (f_X7_judge 110)) fun t450 => if t448 = t450 then k2 (s1 + (5 : Int32)) else retZ (0 : Int32) else if (t4 &&& (63 : Int32)) = (55 : Int32) then bnd (cv 5 0 (f_X6_clear 0)) fun t453 => bnd (cv 6 110 (f_X7_clear 110)) fun t455 => if t453 = t455 then k2 (s1 + (5 : Int32)) else retZ (0 : Int32) else if (t4 &&& (63 : Int32)) = (56 : Int32) then bnd (scrM scr (s1 + (1 : Int32))) fun t458 => bnd (scrM scr (s1 + (2 : Int32))) fun t459 => bnd (scrM scr (s1 + (3 : Int32))) fun t460 => bnd (cv 5 0 (f_X6_lots 0 t458 t459 t460)) fun t461 => bnd (scrM scr (s1 + (1 : Int32))) fun t463 => bnd (scrM scr (s1 + (2 : Int32))) fun t464 => bnd (scrM scr (s1 + (3 : Int32))) fun t465 => bnd (cv 6 110 (f_X7_lots 110 t463 t464 t465)) fun t466 => if t461 = t466 then k2 (s1 + (5 : Int32)) else retZ (0 : Int32) else if (t4 &&& (63 : Int32)) = (57 : Int32) then bnd (cv 5 0 (f_X6_image 0)) fun t469 => bnd (cv 6 110 (f_X7_image 110)) fun t471 => if t469 = t471 then k2 (s1 + (5 : Int32)) else retZ (0 : Int32) else if (t4 &&& (63 : Int32)) = (58 : Int32) then bnd (cv 5 0 (f_X6_restore 0)) fun t474 => bnd (cv 6 110 (f_X7_restore 110)) fun t476 => if t474 = t476 then k2 (s1 + (5 : Int32)) else retZ (0 : Int32) else if (t4 &&& (63 : Int32)) = (59 : Int32) then bnd (scrM scr (s1 + (1 : Int32))) fun t479 => bnd (cv 5 0 (f_X6_count 0 t479)) fun t480 => bnd (scrM scr (s1 + (1 : Int32))) fun t482 => bnd (cv 6 110 (f_X7_count 110 t482)) fun t483 => if t480 = t483 then k2 (s1 + (5 : Int32)) else retZ (0 : Int32) else k2 (s1 + (5 : Int32))) (0 : Int32)
set_option maxRecDepth 200000 in
set_option maxHeartbeats 8000000 in
theorem s_law (scr : Option (Nat × (Nat → Int32))) (hp : HP) (vr : Int32) (hr : HP) (H : f_law scr hp = some (vr, hr)) : Rn scr 131 5835 eL_law 10 [some (.ref SCR), some (.ref 0), some (.ref 110), some (.int (0 : Int32))] [] hp (eI vr, hr) := by
  unfold f_law at H
  refine (r_loop (P := (fun (s1 : Int32) hq => Rn scr 131 5835 eL_law 10 [some (.ref SCR), some (.ref 0), some (.ref 110), some (.int s1)] [] hq (eI vr, hr))) ?_ NF _ _ H)
  intro k2 K2 s1 hs1 H 
  refine r_iln rfl rfl rfl ?_
  refine r_aln rfl rfl rfl ?_
  refine r_scrN H rfl (fun t3 H => ?_)
  refine r_ic (v := 5) rfl ci_5 ?_
  refine r_sub rfl ?_
  refine r_cmp H rfl rfl (fun H => ?_) (fun H => ?_)
  · refine r_ic (v := 1) rfl ci_1 ?_
    exact r_retz H rfl rfl ⟨Nat.le_of_ble_eq_true rfl, Nat.le_of_ble_eq_true rfl⟩
  · refine r_aln rfl rfl rfl ?_
    refine r_iln rfl rfl rfl ?_
    refine r_scr H rfl (fun t4 H => ?_)
    refine r_bi (v := 63) rfl cb_63 ?_
    refine r_and rfl ?_
    rcases Decidable.em ((t4 &&& (63 : Int32)) = (0 : Int32)) with h5 | h5
    · rw [if_pos h5] at H; refine r_tab (t := 22) rfl (by rw [h5]; rfl) ?_
      refine r_aln rfl rfl rfl ?_
      refine r_aln rfl rfl rfl ?_
      refine r_iln rfl rfl rfl ?_
      refine r_ic (v := 1) rfl ci_1 ?_
      refine r_add rfl ?_
      refine r_scr H rfl (fun t6 H => ?_)
      refine r_vtI (rest := []) H rfl rfl rfl (s_X6_feed 0 t6) rfl rfl ⟨rfl, rfl⟩ rfl (fun t7 h8 H => ?_)
      refine r_aln rfl rfl rfl ?_
      refine r_aln rfl rfl rfl ?_
      refine r_iln rfl rfl rfl ?_
      refine r_ic (v := 1) rfl ci_1 ?_
      refine r_add rfl ?_
      refine r_scr H rfl (fun t9 H => ?_)
      refine r_vtI (rest := [.int t7]) H rfl rfl rfl (s_X7_feed 110 t9) rfl rfl ⟨rfl, rfl⟩ rfl (fun t10 h11 H => ?_)
      refine r_cmp H rfl rfl (fun H => ?_) (fun H => ?_)
      · refine r_inc (v := 5) (L' := [some (.ref SCR), some (.ref 0), some (.ref 110), some (.int (s1 + (5 : Int32)))]) rfl rfl ci_5 rfl ?_
        refine r_go rfl ?_
        have q := K2 _ _ H
        exact q
      · refine r_ic (v := 0) rfl ci_0 ?_
        exact r_retz H rfl rfl ⟨Nat.le_of_ble_eq_true rfl, Nat.le_of_ble_eq_true rfl⟩
    rw [if_neg h5] at H
    rcases Decidable.em ((t4 &&& (63 : Int32)) = (1 : Int32)) with h12 | h12
    · rw [if_pos h12] at H; refine r_tab (t := 39) rfl (by rw [h12]; rfl) ?_
      refine r_aln rfl rfl rfl ?_
      refine r_vtI (rest := []) H rfl rfl rfl (s_X6_town 0) rfl rfl ⟨rfl, rfl⟩ rfl (fun t13 h14 H => ?_)
      refine r_aln rfl rfl rfl ?_
      refine r_vtI (rest := [.int t13]) H rfl rfl rfl (s_X7_town 110) rfl rfl ⟨rfl, rfl⟩ rfl (fun t15 h16 H => ?_)
      refine r_cmp H rfl rfl (fun H => ?_) (fun H => ?_)
      · refine r_inc (v := 5) (L' := [some (.ref SCR), some (.ref 0), some (.ref 110), some (.int (s1 + (5 : Int32)))]) rfl rfl ci_5 rfl ?_
        refine r_go rfl ?_
        have q := K2 _ _ H
        exact q
      · refine r_ic (v := 0) rfl ci_0 ?_
        exact r_retz H rfl rfl ⟨Nat.le_of_ble_eq_true rfl, Nat.le_of_ble_eq_true rfl⟩
    rw [if_neg h12] at H
    rcases Decidable.em ((t4 &&& (63 : Int32)) = (2 : Int32)) with h17 | h17
    · rw [if_pos h17] at H; refine r_tab (t := 46) rfl (by rw [h17]; rfl) ?_
      refine r_aln rfl rfl rfl ?_
      refine r_aln rfl rfl rfl ?_
      refine r_iln rfl rfl rfl ?_
      refine r_ic (v := 1) rfl ci_1 ?_
      refine r_add rfl ?_
      refine r_scr H rfl (fun t18 H => ?_)
      refine r_aln rfl rfl rfl ?_
      refine r_iln rfl rfl rfl ?_
      refine r_ic (v := 2) rfl ci_2 ?_
      refine r_add rfl ?_
      refine r_scr H rfl (fun t19 H => ?_)
      refine r_vtI (rest := []) H rfl rfl rfl (s_X6_person 0 t18 t19) rfl rfl ⟨rfl, rfl⟩ rfl (fun t20 h21 H => ?_)
      refine r_aln rfl rfl rfl ?_
      refine r_aln rfl rfl rfl ?_
      refine r_iln rfl rfl rfl ?_
      refine r_ic (v := 1) rfl ci_1 ?_
      refine r_add rfl ?_
      refine r_scr H rfl (fun t22 H => ?_)
      refine r_aln rfl rfl rfl ?_
      refine r_iln rfl rfl rfl ?_
      refine r_ic (v := 2) rfl ci_2 ?_
      refine r_add rfl ?_
      refine r_scr H rfl (fun t23 H => ?_)
      refine r_vtI (rest := [.int t20]) H rfl rfl rfl (s_X7_person 110 t22 t23) rfl rfl ⟨rfl, rfl⟩ rfl (fun t24 h25 H => ?_)
      refine r_cmp H rfl rfl (fun H => ?_) (fun H => ?_)
      · refine r_inc (v := 5) (L' := [some (.ref SCR), some (.ref 0), some (.ref 110), some (.int (s1 + (5 : Int32)))]) rfl rfl ci_5 rfl ?_
        refine r_go rfl ?_
        have q := K2 _ _ H
        exact q
      · refine r_ic (v := 0) rfl ci_0 ?_
        exact r_retz H rfl rfl ⟨Nat.le_of_ble_eq_true rfl, Nat.le_of_ble_eq_true rfl⟩
    rw [if_neg h17] at H
    rcases Decidable.em ((t4 &&& (63 : Int32)) = (3 : Int32)) with h26 | h26
    · rw [if_pos h26] at H; refine r_tab (t := 73) rfl (by rw [h26]; rfl) ?_
      refine r_aln rfl rfl rfl ?_
      refine r_aln rfl rfl rfl ?_
      refine r_iln rfl rfl rfl ?_
      refine r_ic (v := 1) rfl ci_1 ?_
      refine r_add rfl ?_
      refine r_scr H rfl (fun t27 H => ?_)
      refine r_aln rfl rfl rfl ?_
      refine r_iln rfl rfl rfl ?_
      refine r_ic (v := 2) rfl ci_2 ?_
      refine r_add rfl ?_
      refine r_scr H rfl (fun t28 H => ?_)
      refine r_aln rfl rfl rfl ?_
      refine r_iln rfl rfl rfl ?_
      refine r_ic (v := 3) rfl ci_3 ?_
      refine r_add rfl ?_
      refine r_scr H rfl (fun t29 H => ?_)
      refine r_vtI (rest := []) H rfl rfl rfl (s_X6_comes 0 t27 t28 t29) rfl rfl ⟨rfl, rfl⟩ rfl (fun t30 h31 H => ?_)
      refine r_aln rfl rfl rfl ?_
      refine r_aln rfl rfl rfl ?_
      refine r_iln rfl rfl rfl ?_
      refine r_ic (v := 1) rfl ci_1 ?_
      refine r_add rfl ?_
      refine r_scr H rfl (fun t32 H => ?_)
      refine r_aln rfl rfl rfl ?_
      refine r_iln rfl rfl rfl ?_
      refine r_ic (v := 2) rfl ci_2 ?_
      refine r_add rfl ?_
      refine r_scr H rfl (fun t33 H => ?_)
      refine r_aln rfl rfl rfl ?_
      refine r_iln rfl rfl rfl ?_
      refine r_ic (v := 3) rfl ci_3 ?_
      refine r_add rfl ?_
      refine r_scr H rfl (fun t34 H => ?_)
      refine r_vtI (rest := [.int t30]) H rfl rfl rfl (s_X7_comes_ 110 t32 t33 t34) rfl rfl ⟨rfl, rfl⟩ rfl (fun t35 h36 H => ?_)
      refine r_cmp H rfl rfl (fun H => ?_) (fun H => ?_)
      · refine r_inc (v := 5) (L' := [some (.ref SCR), some (.ref 0), some (.ref 110), some (.int (s1 + (5 : Int32)))]) rfl rfl ci_5 rfl ?_
        refine r_go rfl ?_
        have q := K2 _ _ H
        exact q
      · refine r_ic (v := 0) rfl ci_0 ?_
        exact r_retz H rfl rfl ⟨Nat.le_of_ble_eq_true rfl, Nat.le_of_ble_eq_true rfl⟩
    rw [if_neg h26] at H
    rcases Decidable.em ((t4 &&& (63 : Int32)) = (4 : Int32)) with h37 | h37
    · rw [if_pos h37] at H; refine r_tab (t := 110) rfl (by rw [h37]; rfl) ?_
      refine r_aln rfl rfl rfl ?_
      refine r_aln rfl rfl rfl ?_
      refine r_iln rfl rfl rfl ?_
      refine r_ic (v := 1) rfl ci_1 ?_
      refine r_add rfl ?_
      refine r_scr H rfl (fun t38 H => ?_)
      refine r_aln rfl rfl rfl ?_
      refine r_iln rfl rfl rfl ?_
      refine r_ic (v := 2) rfl ci_2 ?_
      refine r_add rfl ?_
      refine r_scr H rfl (fun t39 H => ?_)
      refine r_vtI (rest := []) H rfl rfl rfl (s_X6_asks 0 t38 t39) rfl rfl ⟨rfl, rfl⟩ rfl (fun t40 h41 H => ?_)
      refine r_aln rfl rfl rfl ?_
      refine r_aln rfl rfl rfl ?_
      refine r_iln rfl rfl rfl ?_
      refine r_ic (v := 1) rfl ci_1 ?_
      refine r_add rfl ?_
      refine r_scr H rfl (fun t42 H => ?_)
      refine r_aln rfl rfl rfl ?_
      refine r_iln rfl rfl rfl ?_
      refine r_ic (v := 2) rfl ci_2 ?_
      refine r_add rfl ?_
      refine r_scr H rfl (fun t43 H => ?_)
      refine r_vtI (rest := [.int t40]) H rfl rfl rfl (s_X7_asks 110 t42 t43) rfl rfl ⟨rfl, rfl⟩ rfl (fun t44 h45 H => ?_)
      refine r_cmp H rfl rfl (fun H => ?_) (fun H => ?_)
      · refine r_inc (v := 5) (L' := [some (.ref SCR), some (.ref 0), some (.ref 110), some (.int (s1 + (5 : Int32)))]) rfl rfl ci_5 rfl ?_
        refine r_go rfl ?_
        have q := K2 _ _ H
        exact q
      · refine r_ic (v := 0) rfl ci_0 ?_
        exact r_retz H rfl rfl ⟨Nat.le_of_ble_eq_true rfl, Nat.le_of_ble_eq_true rfl⟩
    rw [if_neg h37] at H
    rcases Decidable.em ((t4 &&& (63 : Int32)) = (5 : Int32)) with h46 | h46
    · rw [if_pos h46] at H; refine r_tab (t := 137) rfl (by rw [h46]; rfl) ?_
      refine r_aln rfl rfl rfl ?_
      refine r_aln rfl rfl rfl ?_
      refine r_iln rfl rfl rfl ?_
      refine r_ic (v := 1) rfl ci_1 ?_
      refine r_add rfl ?_
      refine r_scr H rfl (fun t47 H => ?_)
      refine r_aln rfl rfl rfl ?_
      refine r_iln rfl rfl rfl ?_
      refine r_ic (v := 2) rfl ci_2 ?_
      refine r_add rfl ?_
      refine r_scr H rfl (fun t48 H => ?_)
      refine r_vtI (rest := []) H rfl rfl rfl (s_X6_believes 0 t47 t48) rfl rfl ⟨rfl, rfl⟩ rfl (fun t49 h50 H => ?_)
      refine r_aln rfl rfl rfl ?_
      refine r_aln rfl rfl rfl ?_
      refine r_iln rfl rfl rfl ?_
      refine r_ic (v := 1) rfl ci_1 ?_
      refine r_add rfl ?_
      refine r_scr H rfl (fun t51 H => ?_)
      refine r_aln rfl rfl rfl ?_
      refine r_iln rfl rfl rfl ?_
      refine r_ic (v := 2) rfl ci_2 ?_
      refine r_add rfl ?_
      refine r_scr H rfl (fun t52 H => ?_)
      refine r_vtI (rest := [.int t49]) H rfl rfl rfl (s_X7_believes 110 t51 t52) rfl rfl ⟨rfl, rfl⟩ rfl (fun t53 h54 H => ?_)
      refine r_cmp H rfl rfl (fun H => ?_) (fun H => ?_)
      · refine r_inc (v := 5) (L' := [some (.ref SCR), some (.ref 0), some (.ref 110), some (.int (s1 + (5 : Int32)))]) rfl rfl ci_5 rfl ?_
        refine r_go rfl ?_
        have q := K2 _ _ H
        exact q
      · refine r_ic (v := 0) rfl ci_0 ?_
        exact r_retz H rfl rfl ⟨Nat.le_of_ble_eq_true rfl, Nat.le_of_ble_eq_true rfl⟩
    rw [if_neg h46] at H
    rcases Decidable.em ((t4 &&& (63 : Int32)) = (6 : Int32)) with h55 | h55
    · rw [if_pos h55] at H; refine r_tab (t := 164) rfl (by rw [h55]; rfl) ?_
      refine r_aln rfl rfl rfl ?_
      refine r_aln rfl rfl rfl ?_
      refine r_iln rfl rfl rfl ?_
      refine r_ic (v := 1) rfl ci_1 ?_
      refine r_add rfl ?_
      refine r_scr H rfl (fun t56 H => ?_)
      refine r_aln rfl rfl rfl ?_
      refine r_iln rfl rfl rfl ?_
      refine r_ic (v := 2) rfl ci_2 ?_
      refine r_add rfl ?_
      refine r_scr H rfl (fun t57 H => ?_)
      refine r_aln rfl rfl rfl ?_
      refine r_iln rfl rfl rfl ?_
      refine r_ic (v := 3) rfl ci_3 ?_
      refine r_add rfl ?_
      refine r_scr H rfl (fun t58 H => ?_)
      refine r_vtI (rest := []) H rfl rfl rfl (s_X6_kind 0 t56 t57 t58) rfl rfl ⟨rfl, rfl⟩ rfl (fun t59 h60 H => ?_)
      refine r_aln rfl rfl rfl ?_
      refine r_aln rfl rfl rfl ?_
      refine r_iln rfl rfl rfl ?_
      refine r_ic (v := 1) rfl ci_1 ?_
      refine r_add rfl ?_
      refine r_scr H rfl (fun t61 H => ?_)
      refine r_aln rfl rfl rfl ?_
      refine r_iln rfl rfl rfl ?_
      refine r_ic (v := 2) rfl ci_2 ?_
      refine r_add rfl ?_
      refine r_scr H rfl (fun t62 H => ?_)
      refine r_aln rfl rfl rfl ?_
      refine r_iln rfl rfl rfl ?_
      refine r_ic (v := 3) rfl ci_3 ?_
      refine r_add rfl ?_
      refine r_scr H rfl (fun t63 H => ?_)
      refine r_vtI (rest := [.int t59]) H rfl rfl rfl (s_X7_kind 110 t61 t62 t63) rfl rfl ⟨rfl, rfl⟩ rfl (fun t64 h65 H => ?_)
      refine r_cmp H rfl rfl (fun H => ?_) (fun H => ?_)
      · refine r_inc (v := 5) (L' := [some (.ref SCR), some (.ref 0), some (.ref 110), some (.int (s1 + (5 : Int32)))]) rfl rfl ci_5 rfl ?_
        refine r_go rfl ?_
        have q := K2 _ _ H
        exact q
      · refine r_ic (v := 0) rfl ci_0 ?_
        exact r_retz H rfl rfl ⟨Nat.le_of_ble_eq_true rfl, Nat.le_of_ble_eq_true rfl⟩
    rw [if_neg h55] at H
    rcases Decidable.em ((t4 &&& (63 : Int32)) = (7 : Int32)) with h66 | h66
    · rw [if_pos h66] at H; refine r_tab (t := 201) rfl (by rw [h66]; rfl) ?_
      refine r_aln rfl rfl rfl ?_
      refine r_aln rfl rfl rfl ?_
      refine r_iln rfl rfl rfl ?_
      refine r_ic (v := 1) rfl ci_1 ?_
      refine r_add rfl ?_
      refine r_scr H rfl (fun t67 H => ?_)
      refine r_aln rfl rfl rfl ?_
      refine r_iln rfl rfl rfl ?_
      refine r_ic (v := 2) rfl ci_2 ?_
      refine r_add rfl ?_
      refine r_scr H rfl (fun t68 H => ?_)
      refine r_vtI (rest := []) H rfl rfl rfl (s_X6_way 0 t67 t68) rfl rfl ⟨rfl, rfl⟩ rfl (fun t69 h70 H => ?_)
      refine r_aln rfl rfl rfl ?_
      refine r_aln rfl rfl rfl ?_
      refine r_iln rfl rfl rfl ?_
      refine r_ic (v := 1) rfl ci_1 ?_
      refine r_add rfl ?_
      refine r_scr H rfl (fun t71 H => ?_)
      refine r_aln rfl rfl rfl ?_
      refine r_iln rfl rfl rfl ?_
      refine r_ic (v := 2) rfl ci_2 ?_
      refine r_add rfl ?_
      refine r_scr H rfl (fun t72 H => ?_)
      refine r_vtI (rest := [.int t69]) H rfl rfl rfl (s_X7_way 110 t71 t72) rfl rfl ⟨rfl, rfl⟩ rfl (fun t73 h74 H => ?_)
      refine r_cmp H rfl rfl (fun H => ?_) (fun H => ?_)
      · refine r_inc (v := 5) (L' := [some (.ref SCR), some (.ref 0), some (.ref 110), some (.int (s1 + (5 : Int32)))]) rfl rfl ci_5 rfl ?_
        refine r_go rfl ?_
        have q := K2 _ _ H
        exact q
      · refine r_ic (v := 0) rfl ci_0 ?_
        exact r_retz H rfl rfl ⟨Nat.le_of_ble_eq_true rfl, Nat.le_of_ble_eq_true rfl⟩
    rw [if_neg h66] at H
    rcases Decidable.em ((t4 &&& (63 : Int32)) = (8 : Int32)) with h75 | h75
    · rw [if_pos h75] at H; refine r_tab (t := 228) rfl (by rw [h75]; rfl) ?_
      refine r_aln rfl rfl rfl ?_
      refine r_aln rfl rfl rfl ?_
      refine r_iln rfl rfl rfl ?_
      refine r_ic (v := 1) rfl ci_1 ?_
      refine r_add rfl ?_
      refine r_scr H rfl (fun t76 H => ?_)
      refine r_aln rfl rfl rfl ?_
      refine r_iln rfl rfl rfl ?_
      refine r_ic (v := 2) rfl ci_2 ?_
      refine r_add rfl ?_
      refine r_scr H rfl (fun t77 H => ?_)
      refine r_vtI (rest := []) H rfl rfl rfl (s_X6_hangs 0 t76 t77) rfl rfl ⟨rfl, rfl⟩ rfl (fun t78 h79 H => ?_)
      refine r_aln rfl rfl rfl ?_
      refine r_aln rfl rfl rfl ?_
      refine r_iln rfl rfl rfl ?_
      refine r_ic (v := 1) rfl ci_1 ?_
      refine r_add rfl ?_
      refine r_scr H rfl (fun t80 H => ?_)
      refine r_aln rfl rfl rfl ?_
      refine r_iln rfl rfl rfl ?_
      refine r_ic (v := 2) rfl ci_2 ?_
      refine r_add rfl ?_
      refine r_scr H rfl (fun t81 H => ?_)
      refine r_vtI (rest := [.int t78]) H rfl rfl rfl (s_X7_hangs 110 t80 t81) rfl rfl ⟨rfl, rfl⟩ rfl (fun t82 h83 H => ?_)
      refine r_cmp H rfl rfl (fun H => ?_) (fun H => ?_)
      · refine r_inc (v := 5) (L' := [some (.ref SCR), some (.ref 0), some (.ref 110), some (.int (s1 + (5 : Int32)))]) rfl rfl ci_5 rfl ?_
        refine r_go rfl ?_
        have q := K2 _ _ H
        exact q
      · refine r_ic (v := 0) rfl ci_0 ?_
        exact r_retz H rfl rfl ⟨Nat.le_of_ble_eq_true rfl, Nat.le_of_ble_eq_true rfl⟩
    rw [if_neg h75] at H
    rcases Decidable.em ((t4 &&& (63 : Int32)) = (9 : Int32)) with h84 | h84
    · rw [if_pos h84] at H; refine r_tab (t := 255) rfl (by rw [h84]; rfl) ?_
      refine r_aln rfl rfl rfl ?_
      refine r_vtI (rest := []) H rfl rfl rfl (s_X6_week 0) rfl rfl ⟨rfl, rfl⟩ rfl (fun t85 h86 H => ?_)
      refine r_aln rfl rfl rfl ?_
      refine r_vtI (rest := [.int t85]) H rfl rfl rfl (s_X7_week 110) rfl rfl ⟨rfl, rfl⟩ rfl (fun t87 h88 H => ?_)
      refine r_cmp H rfl rfl (fun H => ?_) (fun H => ?_)
      · refine r_inc (v := 5) (L' := [some (.ref SCR), some (.ref 0), some (.ref 110), some (.int (s1 + (5 : Int32)))]) rfl rfl ci_5 rfl ?_
        refine r_go rfl ?_
        have q := K2 _ _ H
        exact q
      · refine r_ic (v := 0) rfl ci_0 ?_
        exact r_retz H rfl rfl ⟨Nat.le_of_ble_eq_true rfl, Nat.le_of_ble_eq_true rfl⟩
    rw [if_neg h84] at H
    rcases Decidable.em ((t4 &&& (63 : Int32)) = (10 : Int32)) with h89 | h89
    · rw [if_pos h89] at H; refine r_tab (t := 262) rfl (by rw [h89]; rfl) ?_
      refine r_aln rfl rfl rfl ?_
      refine r_vtI (rest := []) H rfl rfl rfl (s_X6_back 0) rfl rfl ⟨rfl, rfl⟩ rfl (fun t90 h91 H => ?_)
      refine r_aln rfl rfl rfl ?_
      refine r_vtI (rest := [.int t90]) H rfl rfl rfl (s_X7_back 110) rfl rfl ⟨rfl, rfl⟩ rfl (fun t92 h93 H => ?_)
      refine r_cmp H rfl rfl (fun H => ?_) (fun H => ?_)
      · refine r_inc (v := 5) (L' := [some (.ref SCR), some (.ref 0), some (.ref 110), some (.int (s1 + (5 : Int32)))]) rfl rfl ci_5 rfl ?_
        refine r_go rfl ?_
        have q := K2 _ _ H
        exact q
      · refine r_ic (v := 0) rfl ci_0 ?_
        exact r_retz H rfl rfl ⟨Nat.le_of_ble_eq_true rfl, Nat.le_of_ble_eq_true rfl⟩
    rw [if_neg h89] at H
    rcases Decidable.em ((t4 &&& (63 : Int32)) = (11 : Int32)) with h94 | h94
    · rw [if_pos h94] at H; refine r_tab (t := 269) rfl (by rw [h94]; rfl) ?_
      refine r_aln rfl rfl rfl ?_
      refine r_aln rfl rfl rfl ?_
      refine r_iln rfl rfl rfl ?_
      refine r_ic (v := 1) rfl ci_1 ?_
      refine r_add rfl ?_
      refine r_scr H rfl (fun t95 H => ?_)
      refine r_aln rfl rfl rfl ?_
      refine r_iln rfl rfl rfl ?_
      refine r_ic (v := 2) rfl ci_2 ?_
      refine r_add rfl ?_
      refine r_scr H rfl (fun t96 H => ?_)
      refine r_vtI (rest := []) H rfl rfl rfl (s_X6_says 0 t95 t96) rfl rfl ⟨rfl, rfl⟩ rfl (fun t97 h98 H => ?_)
      refine r_aln rfl rfl rfl ?_
      refine r_aln rfl rfl rfl ?_
      refine r_iln rfl rfl rfl ?_
      refine r_ic (v := 1) rfl ci_1 ?_
      refine r_add rfl ?_
      refine r_scr H rfl (fun t99 H => ?_)
      refine r_aln rfl rfl rfl ?_
      refine r_iln rfl rfl rfl ?_
      refine r_ic (v := 2) rfl ci_2 ?_
      refine r_add rfl ?_
      refine r_scr H rfl (fun t100 H => ?_)
      refine r_vtI (rest := [.int t97]) H rfl rfl rfl (s_X7_says 110 t99 t100) rfl rfl ⟨rfl, rfl⟩ rfl (fun t101 h102 H => ?_)
      refine r_cmp H rfl rfl (fun H => ?_) (fun H => ?_)
      · refine r_inc (v := 5) (L' := [some (.ref SCR), some (.ref 0), some (.ref 110), some (.int (s1 + (5 : Int32)))]) rfl rfl ci_5 rfl ?_
        refine r_go rfl ?_
        have q := K2 _ _ H
        exact q
      · refine r_ic (v := 0) rfl ci_0 ?_
        exact r_retz H rfl rfl ⟨Nat.le_of_ble_eq_true rfl, Nat.le_of_ble_eq_true rfl⟩
    rw [if_neg h94] at H
    rcases Decidable.em ((t4 &&& (63 : Int32)) = (12 : Int32)) with h103 | h103
    · rw [if_pos h103] at H; refine r_tab (t := 296) rfl (by rw [h103]; rfl) ?_
      refine r_aln rfl rfl rfl ?_
      refine r_aln rfl rfl rfl ?_
      refine r_iln rfl rfl rfl ?_
      refine r_ic (v := 1) rfl ci_1 ?_
      refine r_add rfl ?_
      refine r_scr H rfl (fun t104 H => ?_)
      refine r_aln rfl rfl rfl ?_
      refine r_iln rfl rfl rfl ?_
      refine r_ic (v := 2) rfl ci_2 ?_
      refine r_add rfl ?_
      refine r_scr H rfl (fun t105 H => ?_)
      refine r_vtI (rest := []) H rfl rfl rfl (s_X6_saysOf 0 t104 t105) rfl rfl ⟨rfl, rfl⟩ rfl (fun t106 h107 H => ?_)
      refine r_aln rfl rfl rfl ?_
      refine r_aln rfl rfl rfl ?_
      refine r_iln rfl rfl rfl ?_
      refine r_ic (v := 1) rfl ci_1 ?_
      refine r_add rfl ?_
      refine r_scr H rfl (fun t108 H => ?_)
      refine r_aln rfl rfl rfl ?_
      refine r_iln rfl rfl rfl ?_
      refine r_ic (v := 2) rfl ci_2 ?_
      refine r_add rfl ?_
      refine r_scr H rfl (fun t109 H => ?_)
      refine r_vtI (rest := [.int t106]) H rfl rfl rfl (s_X7_saysOf 110 t108 t109) rfl rfl ⟨rfl, rfl⟩ rfl (fun t110 h111 H => ?_)
      refine r_cmp H rfl rfl (fun H => ?_) (fun H => ?_)
      · refine r_inc (v := 5) (L' := [some (.ref SCR), some (.ref 0), some (.ref 110), some (.int (s1 + (5 : Int32)))]) rfl rfl ci_5 rfl ?_
        refine r_go rfl ?_
        have q := K2 _ _ H
        exact q
      · refine r_ic (v := 0) rfl ci_0 ?_
        exact r_retz H rfl rfl ⟨Nat.le_of_ble_eq_true rfl, Nat.le_of_ble_eq_true rfl⟩
    rw [if_neg h103] at H
    rcases Decidable.em ((t4 &&& (63 : Int32)) = (13 : Int32)) with h112 | h112
    · rw [if_pos h112] at H; refine r_tab (t := 323) rfl (by rw [h112]; rfl) ?_
      refine r_aln rfl rfl rfl ?_
      refine r_aln rfl rfl rfl ?_
      refine r_iln rfl rfl rfl ?_
      refine r_ic (v := 1) rfl ci_1 ?_
      refine r_add rfl ?_
      refine r_scr H rfl (fun t113 H => ?_)
      refine r_aln rfl rfl rfl ?_
      refine r_iln rfl rfl rfl ?_
      refine r_ic (v := 2) rfl ci_2 ?_
      refine r_add rfl ?_
      refine r_scr H rfl (fun t114 H => ?_)
      refine r_vtI (rest := []) H rfl rfl rfl (s_X6_belief 0 t113 t114) rfl rfl ⟨rfl, rfl⟩ rfl (fun t115 h116 H => ?_)
      refine r_aln rfl rfl rfl ?_
      refine r_aln rfl rfl rfl ?_
      refine r_iln rfl rfl rfl ?_
      refine r_ic (v := 1) rfl ci_1 ?_
      refine r_add rfl ?_
      refine r_scr H rfl (fun t117 H => ?_)
      refine r_aln rfl rfl rfl ?_
      refine r_iln rfl rfl rfl ?_
      refine r_ic (v := 2) rfl ci_2 ?_
      refine r_add rfl ?_
      refine r_scr H rfl (fun t118 H => ?_)
      refine r_vtI (rest := [.int t115]) H rfl rfl rfl (s_X7_belief 110 t117 t118) rfl rfl ⟨rfl, rfl⟩ rfl (fun t119 h120 H => ?_)
      refine r_cmp H rfl rfl (fun H => ?_) (fun H => ?_)
      · refine r_inc (v := 5) (L' := [some (.ref SCR), some (.ref 0), some (.ref 110), some (.int (s1 + (5 : Int32)))]) rfl rfl ci_5 rfl ?_
        refine r_go rfl ?_
        have q := K2 _ _ H
        exact q
      · refine r_ic (v := 0) rfl ci_0 ?_
        exact r_retz H rfl rfl ⟨Nat.le_of_ble_eq_true rfl, Nat.le_of_ble_eq_true rfl⟩
    rw [if_neg h112] at H
    rcases Decidable.em ((t4 &&& (63 : Int32)) = (14 : Int32)) with h121 | h121
    · rw [if_pos h121] at H; refine r_tab (t := 350) rfl (by rw [h121]; rfl) ?_
      refine r_aln rfl rfl rfl ?_
      refine r_aln rfl rfl rfl ?_
      refine r_iln rfl rfl rfl ?_
      refine r_ic (v := 1) rfl ci_1 ?_
      refine r_add rfl ?_
      refine r_scr H rfl (fun t122 H => ?_)
      refine r_aln rfl rfl rfl ?_
      refine r_iln rfl rfl rfl ?_
      refine r_ic (v := 2) rfl ci_2 ?_
      refine r_add rfl ?_
      refine r_scr H rfl (fun t123 H => ?_)
      refine r_vtI (rest := []) H rfl rfl rfl (s_X6_fooled 0 t122 t123) rfl rfl ⟨rfl, rfl⟩ rfl (fun t124 h125 H => ?_)
      refine r_aln rfl rfl rfl ?_
      refine r_aln rfl rfl rfl ?_
      refine r_iln rfl rfl rfl ?_
      refine r_ic (v := 1) rfl ci_1 ?_
      refine r_add rfl ?_
      refine r_scr H rfl (fun t126 H => ?_)
      refine r_aln rfl rfl rfl ?_
      refine r_iln rfl rfl rfl ?_
      refine r_ic (v := 2) rfl ci_2 ?_
      refine r_add rfl ?_
      refine r_scr H rfl (fun t127 H => ?_)
      refine r_vtI (rest := [.int t124]) H rfl rfl rfl (s_X7_fooled 110 t126 t127) rfl rfl ⟨rfl, rfl⟩ rfl (fun t128 h129 H => ?_)
      refine r_cmp H rfl rfl (fun H => ?_) (fun H => ?_)
      · refine r_inc (v := 5) (L' := [some (.ref SCR), some (.ref 0), some (.ref 110), some (.int (s1 + (5 : Int32)))]) rfl rfl ci_5 rfl ?_
        refine r_go rfl ?_
        have q := K2 _ _ H
        exact q
      · refine r_ic (v := 0) rfl ci_0 ?_
        exact r_retz H rfl rfl ⟨Nat.le_of_ble_eq_true rfl, Nat.le_of_ble_eq_true rfl⟩
    rw [if_neg h121] at H
    rcases Decidable.em ((t4 &&& (63 : Int32)) = (15 : Int32)) with h130 | h130
    · rw [if_pos h130] at H; refine r_tab (t := 377) rfl (by rw [h130]; rfl) ?_
      refine r_aln rfl rfl rfl ?_
      refine r_aln rfl rfl rfl ?_
      refine r_iln rfl rfl rfl ?_
      refine r_ic (v := 1) rfl ci_1 ?_
      refine r_add rfl ?_
      refine r_scr H rfl (fun t131 H => ?_)
      refine r_vtI (rest := []) H rfl rfl rfl (s_X6_error 0 t131) rfl rfl ⟨rfl, rfl⟩ rfl (fun t132 h133 H => ?_)
      refine r_aln rfl rfl rfl ?_
      refine r_aln rfl rfl rfl ?_
      refine r_iln rfl rfl rfl ?_
      refine r_ic (v := 1) rfl ci_1 ?_
      refine r_add rfl ?_
      refine r_scr H rfl (fun t134 H => ?_)
      refine r_vtI (rest := [.int t132]) H rfl rfl rfl (s_X7_error 110 t134) rfl rfl ⟨rfl, rfl⟩ rfl (fun t135 h136 H => ?_)
      refine r_cmp H rfl rfl (fun H => ?_) (fun H => ?_)
      · refine r_inc (v := 5) (L' := [some (.ref SCR), some (.ref 0), some (.ref 110), some (.int (s1 + (5 : Int32)))]) rfl rfl ci_5 rfl ?_
        refine r_go rfl ?_
        have q := K2 _ _ H
        exact q
      · refine r_ic (v := 0) rfl ci_0 ?_
        exact r_retz H rfl rfl ⟨Nat.le_of_ble_eq_true rfl, Nat.le_of_ble_eq_true rfl⟩
    rw [if_neg h130] at H
    rcases Decidable.em ((t4 &&& (63 : Int32)) = (16 : Int32)) with h137 | h137
    · rw [if_pos h137] at H; refine r_tab (t := 394) rfl (by rw [h137]; rfl) ?_
      refine r_aln rfl rfl rfl ?_
      refine r_aln rfl rfl rfl ?_
      refine r_iln rfl rfl rfl ?_
      refine r_ic (v := 1) rfl ci_1 ?_
      refine r_add rfl ?_
      refine r_scr H rfl (fun t138 H => ?_)
      refine r_aln rfl rfl rfl ?_
      refine r_iln rfl rfl rfl ?_
      refine r_ic (v := 2) rfl ci_2 ?_
      refine r_add rfl ?_
      refine r_scr H rfl (fun t139 H => ?_)
      refine r_vtI (rest := []) H rfl rfl rfl (s_X6_clash 0 t138 t139) rfl rfl ⟨rfl, rfl⟩ rfl (fun t140 h141 H => ?_)
      refine r_aln rfl rfl rfl ?_
      refine r_aln rfl rfl rfl ?_
      refine r_iln rfl rfl rfl ?_
      refine r_ic (v := 1) rfl ci_1 ?_
      refine r_add rfl ?_
      refine r_scr H rfl (fun t142 H => ?_)
      refine r_aln rfl rfl rfl ?_
      refine r_iln rfl rfl rfl ?_
      refine r_ic (v := 2) rfl ci_2 ?_
      refine r_add rfl ?_
      refine r_scr H rfl (fun t143 H => ?_)
      refine r_vtI (rest := [.int t140]) H rfl rfl rfl (s_X7_clash 110 t142 t143) rfl rfl ⟨rfl, rfl⟩ rfl (fun t144 h145 H => ?_)
      refine r_cmp H rfl rfl (fun H => ?_) (fun H => ?_)
      · refine r_inc (v := 5) (L' := [some (.ref SCR), some (.ref 0), some (.ref 110), some (.int (s1 + (5 : Int32)))]) rfl rfl ci_5 rfl ?_
        refine r_go rfl ?_
        have q := K2 _ _ H
        exact q
      · refine r_ic (v := 0) rfl ci_0 ?_
        exact r_retz H rfl rfl ⟨Nat.le_of_ble_eq_true rfl, Nat.le_of_ble_eq_true rfl⟩
    rw [if_neg h137] at H
    rcases Decidable.em ((t4 &&& (63 : Int32)) = (17 : Int32)) with h146 | h146
    · rw [if_pos h146] at H; refine r_tab (t := 421) rfl (by rw [h146]; rfl) ?_
      refine r_aln rfl rfl rfl ?_
      refine r_vtI (rest := []) H rfl rfl rfl (s_X6_settles 0) rfl rfl ⟨rfl, rfl⟩ rfl (fun t147 h148 H => ?_)
      refine r_aln rfl rfl rfl ?_
      refine r_vtI (rest := [.int t147]) H rfl rfl rfl (s_X7_settles 110) rfl rfl ⟨rfl, rfl⟩ rfl (fun t149 h150 H => ?_)
      refine r_cmp H rfl rfl (fun H => ?_) (fun H => ?_)
      · refine r_inc (v := 5) (L' := [some (.ref SCR), some (.ref 0), some (.ref 110), some (.int (s1 + (5 : Int32)))]) rfl rfl ci_5 rfl ?_
        refine r_go rfl ?_
        have q := K2 _ _ H
        exact q
      · refine r_ic (v := 0) rfl ci_0 ?_
        exact r_retz H rfl rfl ⟨Nat.le_of_ble_eq_true rfl, Nat.le_of_ble_eq_true rfl⟩
    rw [if_neg h146] at H
    rcases Decidable.em ((t4 &&& (63 : Int32)) = (18 : Int32)) with h151 | h151
    · rw [if_pos h151] at H; refine r_tab (t := 428) rfl (by rw [h151]; rfl) ?_
      refine r_aln rfl rfl rfl ?_
      refine r_vtI (rest := []) H rfl rfl rfl (s_X6_round 0) rfl rfl ⟨rfl, rfl⟩ rfl (fun t152 h153 H => ?_)
      refine r_aln rfl rfl rfl ?_
      refine r_vtI (rest := [.int t152]) H rfl rfl rfl (s_X7_round 110) rfl rfl ⟨rfl, rfl⟩ rfl (fun t154 h155 H => ?_)
      refine r_cmp H rfl rfl (fun H => ?_) (fun H => ?_)
      · refine r_inc (v := 5) (L' := [some (.ref SCR), some (.ref 0), some (.ref 110), some (.int (s1 + (5 : Int32)))]) rfl rfl ci_5 rfl ?_
        refine r_go rfl ?_
        have q := K2 _ _ H
        exact q
      · refine r_ic (v := 0) rfl ci_0 ?_
        exact r_retz H rfl rfl ⟨Nat.le_of_ble_eq_true rfl, Nat.le_of_ble_eq_true rfl⟩
    rw [if_neg h151] at H
    rcases Decidable.em ((t4 &&& (63 : Int32)) = (19 : Int32)) with h156 | h156
    · rw [if_pos h156] at H; refine r_tab (t := 435) rfl (by rw [h156]; rfl) ?_
      refine r_aln rfl rfl rfl ?_
      refine r_aln rfl rfl rfl ?_
      refine r_iln rfl rfl rfl ?_
      refine r_ic (v := 1) rfl ci_1 ?_
      refine r_add rfl ?_
      refine r_scr H rfl (fun t157 H => ?_)
      refine r_vtI (rest := []) H rfl rfl rfl (s_X6_knows 0 t157) rfl rfl ⟨rfl, rfl⟩ rfl (fun t158 h159 H => ?_)
      refine r_aln rfl rfl rfl ?_
      refine r_aln rfl rfl rfl ?_
      refine r_iln rfl rfl rfl ?_
      refine r_ic (v := 1) rfl ci_1 ?_
      refine r_add rfl ?_
      refine r_scr H rfl (fun t160 H => ?_)
      refine r_vtI (rest := [.int t158]) H rfl rfl rfl (s_X7_knows 110 t160) rfl rfl ⟨rfl, rfl⟩ rfl (fun t161 h162 H => ?_)
      refine r_cmp H rfl rfl (fun H => ?_) (fun H => ?_)
      · refine r_inc (v := 5) (L' := [some (.ref SCR), some (.ref 0), some (.ref 110), some (.int (s1 + (5 : Int32)))]) rfl rfl ci_5 rfl ?_
        refine r_go rfl ?_
        have q := K2 _ _ H
        exact q
      · refine r_ic (v := 0) rfl ci_0 ?_
        exact r_retz H rfl rfl ⟨Nat.le_of_ble_eq_true rfl, Nat.le_of_ble_eq_true rfl⟩
    rw [if_neg h156] at H
    rcases Decidable.em ((t4 &&& (63 : Int32)) = (20 : Int32)) with h163 | h163
    · rw [if_pos h163] at H; refine r_tab (t := 452) rfl (by rw [h163]; rfl) ?_
      refine r_aln rfl rfl rfl ?_
      refine r_aln rfl rfl rfl ?_
      refine r_iln rfl rfl rfl ?_
      refine r_ic (v := 1) rfl ci_1 ?_
      refine r_add rfl ?_
      refine r_scr H rfl (fun t164 H => ?_)
      refine r_aln rfl rfl rfl ?_
      refine r_iln rfl rfl rfl ?_
      refine r_ic (v := 2) rfl ci_2 ?_
      refine r_add rfl ?_
      refine r_scr H rfl (fun t165 H => ?_)
      refine r_vtI (rest := []) H rfl rfl rfl (s_X6_nearest 0 t164 t165) rfl rfl ⟨rfl, rfl⟩ rfl (fun t166 h167 H => ?_)
      refine r_aln rfl rfl rfl ?_
      refine r_aln rfl rfl rfl ?_
      refine r_iln rfl rfl rfl ?_
      refine r_ic (v := 1) rfl ci_1 ?_
      refine r_add rfl ?_
      refine r_scr H rfl (fun t168 H => ?_)
      refine r_aln rfl rfl rfl ?_
      refine r_iln rfl rfl rfl ?_
      refine r_ic (v := 2) rfl ci_2 ?_
      refine r_add rfl ?_
      refine r_scr H rfl (fun t169 H => ?_)
      refine r_vtI (rest := [.int t166]) H rfl rfl rfl (s_X7_nearest 110 t168 t169) rfl rfl ⟨rfl, rfl⟩ rfl (fun t170 h171 H => ?_)
      refine r_cmp H rfl rfl (fun H => ?_) (fun H => ?_)
      · refine r_inc (v := 5) (L' := [some (.ref SCR), some (.ref 0), some (.ref 110), some (.int (s1 + (5 : Int32)))]) rfl rfl ci_5 rfl ?_
        refine r_go rfl ?_
        have q := K2 _ _ H
        exact q
      · refine r_ic (v := 0) rfl ci_0 ?_
        exact r_retz H rfl rfl ⟨Nat.le_of_ble_eq_true rfl, Nat.le_of_ble_eq_true rfl⟩
    rw [if_neg h163] at H
    rcases Decidable.em ((t4 &&& (63 : Int32)) = (21 : Int32)) with h172 | h172
    · rw [if_pos h172] at H; refine r_tab (t := 479) rfl (by rw [h172]; rfl) ?_
      refine r_aln rfl rfl rfl ?_
      refine r_aln rfl rfl rfl ?_
      refine r_iln rfl rfl rfl ?_
      refine r_ic (v := 1) rfl ci_1 ?_
      refine r_add rfl ?_
      refine r_scr H rfl (fun t173 H => ?_)
      refine r_aln rfl rfl rfl ?_
      refine r_iln rfl rfl rfl ?_
      refine r_ic (v := 2) rfl ci_2 ?_
      refine r_add rfl ?_
      refine r_scr H rfl (fun t174 H => ?_)
      refine r_aln rfl rfl rfl ?_
      refine r_iln rfl rfl rfl ?_
      refine r_ic (v := 3) rfl ci_3 ?_
      refine r_add rfl ?_
      refine r_scr H rfl (fun t175 H => ?_)
      refine r_vtI (rest := []) H rfl rfl rfl (s_X6_fair 0 t173 t174 t175) rfl rfl ⟨rfl, rfl⟩ rfl (fun t176 h177 H => ?_)
      refine r_aln rfl rfl rfl ?_
      refine r_aln rfl rfl rfl ?_
      refine r_iln rfl rfl rfl ?_
      refine r_ic (v := 1) rfl ci_1 ?_
      refine r_add rfl ?_
      refine r_scr H rfl (fun t178 H => ?_)
      refine r_aln rfl rfl rfl ?_
      refine r_iln rfl rfl rfl ?_
      refine r_ic (v := 2) rfl ci_2 ?_
      refine r_add rfl ?_
      refine r_scr H rfl (fun t179 H => ?_)
      refine r_aln rfl rfl rfl ?_
      refine r_iln rfl rfl rfl ?_
      refine r_ic (v := 3) rfl ci_3 ?_
      refine r_add rfl ?_
      refine r_scr H rfl (fun t180 H => ?_)
      refine r_vtI (rest := [.int t176]) H rfl rfl rfl (s_X7_fair 110 t178 t179 t180) rfl rfl ⟨rfl, rfl⟩ rfl (fun t181 h182 H => ?_)
      refine r_cmp H rfl rfl (fun H => ?_) (fun H => ?_)
      · refine r_inc (v := 5) (L' := [some (.ref SCR), some (.ref 0), some (.ref 110), some (.int (s1 + (5 : Int32)))]) rfl rfl ci_5 rfl ?_
        refine r_go rfl ?_
        have q := K2 _ _ H
        exact q
      · refine r_ic (v := 0) rfl ci_0 ?_
        exact r_retz H rfl rfl ⟨Nat.le_of_ble_eq_true rfl, Nat.le_of_ble_eq_true rfl⟩
    rw [if_neg h172] at H
    rcases Decidable.em ((t4 &&& (63 : Int32)) = (22 : Int32)) with h183 | h183
    · rw [if_pos h183] at H; refine r_tab (t := 516) rfl (by rw [h183]; rfl) ?_
      refine r_aln rfl rfl rfl ?_
      refine r_aln rfl rfl rfl ?_
      refine r_iln rfl rfl rfl ?_
      refine r_ic (v := 1) rfl ci_1 ?_
      refine r_add rfl ?_
      refine r_scr H rfl (fun t184 H => ?_)
      refine r_aln rfl rfl rfl ?_
      refine r_iln rfl rfl rfl ?_
      refine r_ic (v := 2) rfl ci_2 ?_
      refine r_add rfl ?_
      refine r_scr H rfl (fun t185 H => ?_)
      refine r_vtI (rest := []) H rfl rfl rfl (s_X6_worth 0 t184 t185) rfl rfl ⟨rfl, rfl⟩ rfl (fun t186 h187 H => ?_)
      refine r_aln rfl rfl rfl ?_
      refine r_aln rfl rfl rfl ?_
      refine r_iln rfl rfl rfl ?_
      refine r_ic (v := 1) rfl ci_1 ?_
      refine r_add rfl ?_
      refine r_scr H rfl (fun t188 H => ?_)
      refine r_aln rfl rfl rfl ?_
      refine r_iln rfl rfl rfl ?_
      refine r_ic (v := 2) rfl ci_2 ?_
      refine r_add rfl ?_
      refine r_scr H rfl (fun t189 H => ?_)
      refine r_vtI (rest := [.int t186]) H rfl rfl rfl (s_X7_worth 110 t188 t189) rfl rfl ⟨rfl, rfl⟩ rfl (fun t190 h191 H => ?_)
      refine r_cmp H rfl rfl (fun H => ?_) (fun H => ?_)
      · refine r_inc (v := 5) (L' := [some (.ref SCR), some (.ref 0), some (.ref 110), some (.int (s1 + (5 : Int32)))]) rfl rfl ci_5 rfl ?_
        refine r_go rfl ?_
        have q := K2 _ _ H
        exact q
      · refine r_ic (v := 0) rfl ci_0 ?_
        exact r_retz H rfl rfl ⟨Nat.le_of_ble_eq_true rfl, Nat.le_of_ble_eq_true rfl⟩
    rw [if_neg h183] at H
    rcases Decidable.em ((t4 &&& (63 : Int32)) = (23 : Int32)) with h192 | h192
    · rw [if_pos h192] at H; refine r_tab (t := 543) rfl (by rw [h192]; rfl) ?_
      refine r_aln rfl rfl rfl ?_
      refine r_aln rfl rfl rfl ?_
      refine r_iln rfl rfl rfl ?_
      refine r_ic (v := 1) rfl ci_1 ?_
      refine r_add rfl ?_
      refine r_scr H rfl (fun t193 H => ?_)
      refine r_vtI (rest := []) H rfl rfl rfl (s_X6_newEar 0 t193) rfl rfl ⟨rfl, rfl⟩ rfl (fun t194 h195 H => ?_)
      refine r_aln rfl rfl rfl ?_
      refine r_aln rfl rfl rfl ?_
      refine r_iln rfl rfl rfl ?_
      refine r_ic (v := 1) rfl ci_1 ?_
      refine r_add rfl ?_
      refine r_scr H rfl (fun t196 H => ?_)
      refine r_vtI (rest := [.int t194]) H rfl rfl rfl (s_X7_newEar 110 t196) rfl rfl ⟨rfl, rfl⟩ rfl (fun t197 h198 H => ?_)
      refine r_cmp H rfl rfl (fun H => ?_) (fun H => ?_)
      · refine r_inc (v := 5) (L' := [some (.ref SCR), some (.ref 0), some (.ref 110), some (.int (s1 + (5 : Int32)))]) rfl rfl ci_5 rfl ?_
        refine r_go rfl ?_
        have q := K2 _ _ H
        exact q
      · refine r_ic (v := 0) rfl ci_0 ?_
        exact r_retz H rfl rfl ⟨Nat.le_of_ble_eq_true rfl, Nat.le_of_ble_eq_true rfl⟩
    rw [if_neg h192] at H
    rcases Decidable.em ((t4 &&& (63 : Int32)) = (24 : Int32)) with h199 | h199
    · rw [if_pos h199] at H; refine r_tab (t := 560) rfl (by rw [h199]; rfl) ?_
      refine r_aln rfl rfl rfl ?_
      refine r_aln rfl rfl rfl ?_
      refine r_iln rfl rfl rfl ?_
      refine r_ic (v := 1) rfl ci_1 ?_
      refine r_add rfl ?_
      refine r_scr H rfl (fun t200 H => ?_)
      refine r_aln rfl rfl rfl ?_
      refine r_iln rfl rfl rfl ?_
      refine r_ic (v := 2) rfl ci_2 ?_
      refine r_add rfl ?_
      refine r_scr H rfl (fun t201 H => ?_)
      refine r_aln rfl rfl rfl ?_
      refine r_iln rfl rfl rfl ?_
      refine r_ic (v := 3) rfl ci_3 ?_
      refine r_add rfl ?_
      refine r_scr H rfl (fun t202 H => ?_)
      refine r_aln rfl rfl rfl ?_
      refine r_iln rfl rfl rfl ?_
      refine r_ic (v := 4) rfl ci_4 ?_
      refine r_add rfl ?_
      refine r_scr H rfl (fun t203 H => ?_)
      refine r_vtI (rest := []) H rfl rfl rfl (s_X6_sisters 0 t200 t201 t202 t203) rfl rfl ⟨rfl, rfl⟩ rfl (fun t204 h205 H => ?_)
      refine r_aln rfl rfl rfl ?_
      refine r_aln rfl rfl rfl ?_
      refine r_iln rfl rfl rfl ?_
      refine r_ic (v := 1) rfl ci_1 ?_
      refine r_add rfl ?_
      refine r_scr H rfl (fun t206 H => ?_)
      refine r_aln rfl rfl rfl ?_
      refine r_iln rfl rfl rfl ?_
      refine r_ic (v := 2) rfl ci_2 ?_
      refine r_add rfl ?_
      refine r_scr H rfl (fun t207 H => ?_)
      refine r_aln rfl rfl rfl ?_
      refine r_iln rfl rfl rfl ?_
      refine r_ic (v := 3) rfl ci_3 ?_
      refine r_add rfl ?_
      refine r_scr H rfl (fun t208 H => ?_)
      refine r_aln rfl rfl rfl ?_
      refine r_iln rfl rfl rfl ?_
      refine r_ic (v := 4) rfl ci_4 ?_
      refine r_add rfl ?_
      refine r_scr H rfl (fun t209 H => ?_)
      refine r_vtI (rest := [.int t204]) H rfl rfl rfl (s_X7_sisters 110 t206 t207 t208 t209) rfl rfl ⟨rfl, rfl⟩ rfl (fun t210 h211 H => ?_)
      refine r_cmp H rfl rfl (fun H => ?_) (fun H => ?_)
      · refine r_inc (v := 5) (L' := [some (.ref SCR), some (.ref 0), some (.ref 110), some (.int (s1 + (5 : Int32)))]) rfl rfl ci_5 rfl ?_
        refine r_go rfl ?_
        have q := K2 _ _ H
        exact q
      · refine r_ic (v := 0) rfl ci_0 ?_
        exact r_retz H rfl rfl ⟨Nat.le_of_ble_eq_true rfl, Nat.le_of_ble_eq_true rfl⟩
    rw [if_neg h199] at H
    rcases Decidable.em ((t4 &&& (63 : Int32)) = (25 : Int32)) with h212 | h212
    · rw [if_pos h212] at H; refine r_tab (t := 607) rfl (by rw [h212]; rfl) ?_
      refine r_aln rfl rfl rfl ?_
      refine r_aln rfl rfl rfl ?_
      refine r_iln rfl rfl rfl ?_
      refine r_ic (v := 1) rfl ci_1 ?_
      refine r_add rfl ?_
      refine r_scr H rfl (fun t213 H => ?_)
      refine r_aln rfl rfl rfl ?_
      refine r_iln rfl rfl rfl ?_
      refine r_ic (v := 2) rfl ci_2 ?_
      refine r_add rfl ?_
      refine r_scr H rfl (fun t214 H => ?_)
      refine r_aln rfl rfl rfl ?_
      refine r_iln rfl rfl rfl ?_
      refine r_ic (v := 3) rfl ci_3 ?_
      refine r_add rfl ?_
      refine r_scr H rfl (fun t215 H => ?_)
      refine r_vtI (rest := []) H rfl rfl rfl (s_X6_cheat 0 t213 t214 t215) rfl rfl ⟨rfl, rfl⟩ rfl (fun t216 h217 H => ?_)
      refine r_aln rfl rfl rfl ?_
      refine r_aln rfl rfl rfl ?_
      refine r_iln rfl rfl rfl ?_
      refine r_ic (v := 1) rfl ci_1 ?_
      refine r_add rfl ?_
      refine r_scr H rfl (fun t218 H => ?_)
      refine r_aln rfl rfl rfl ?_
      refine r_iln rfl rfl rfl ?_
      refine r_ic (v := 2) rfl ci_2 ?_
      refine r_add rfl ?_
      refine r_scr H rfl (fun t219 H => ?_)
      refine r_aln rfl rfl rfl ?_
      refine r_iln rfl rfl rfl ?_
      refine r_ic (v := 3) rfl ci_3 ?_
      refine r_add rfl ?_
      refine r_scr H rfl (fun t220 H => ?_)
      refine r_vtI (rest := [.int t216]) H rfl rfl rfl (s_X7_cheat 110 t218 t219 t220) rfl rfl ⟨rfl, rfl⟩ rfl (fun t221 h222 H => ?_)
      refine r_cmp H rfl rfl (fun H => ?_) (fun H => ?_)
      · refine r_inc (v := 5) (L' := [some (.ref SCR), some (.ref 0), some (.ref 110), some (.int (s1 + (5 : Int32)))]) rfl rfl ci_5 rfl ?_
        refine r_go rfl ?_
        have q := K2 _ _ H
        exact q
      · refine r_ic (v := 0) rfl ci_0 ?_
        exact r_retz H rfl rfl ⟨Nat.le_of_ble_eq_true rfl, Nat.le_of_ble_eq_true rfl⟩
    rw [if_neg h212] at H
    rcases Decidable.em ((t4 &&& (63 : Int32)) = (26 : Int32)) with h223 | h223
    · rw [if_pos h223] at H; refine r_tab (t := 644) rfl (by rw [h223]; rfl) ?_
      refine r_aln rfl rfl rfl ?_
      refine r_aln rfl rfl rfl ?_
      refine r_iln rfl rfl rfl ?_
      refine r_ic (v := 1) rfl ci_1 ?_
      refine r_add rfl ?_
      refine r_scr H rfl (fun t224 H => ?_)
      refine r_vtI (rest := []) H rfl rfl rfl (s_X6_thief 0 t224) rfl rfl ⟨rfl, rfl⟩ rfl (fun t225 h226 H => ?_)
      refine r_aln rfl rfl rfl ?_
      refine r_aln rfl rfl rfl ?_
      refine r_iln rfl rfl rfl ?_
      refine r_ic (v := 1) rfl ci_1 ?_
      refine r_add rfl ?_
      refine r_scr H rfl (fun t227 H => ?_)
      refine r_vtI (rest := [.int t225]) H rfl rfl rfl (s_X7_thief 110 t227) rfl rfl ⟨rfl, rfl⟩ rfl (fun t228 h229 H => ?_)
      refine r_cmp H rfl rfl (fun H => ?_) (fun H => ?_)
      · refine r_inc (v := 5) (L' := [some (.ref SCR), some (.ref 0), some (.ref 110), some (.int (s1 + (5 : Int32)))]) rfl rfl ci_5 rfl ?_
        refine r_go rfl ?_
        have q := K2 _ _ H
        exact q
      · refine r_ic (v := 0) rfl ci_0 ?_
        exact r_retz H rfl rfl ⟨Nat.le_of_ble_eq_true rfl, Nat.le_of_ble_eq_true rfl⟩
    rw [if_neg h223] at H
    rcases Decidable.em ((t4 &&& (63 : Int32)) = (27 : Int32)) with h230 | h230
    · rw [if_pos h230] at H; refine r_tab (t := 661) rfl (by rw [h230]; rfl) ?_
      refine r_aln rfl rfl rfl ?_
      refine r_aln rfl rfl rfl ?_
      refine r_iln rfl rfl rfl ?_
      refine r_ic (v := 1) rfl ci_1 ?_
      refine r_add rfl ?_
      refine r_scr H rfl (fun t231 H => ?_)
      refine r_vtI (rest := []) H rfl rfl rfl (s_X6_tellsMost 0 t231) rfl rfl ⟨rfl, rfl⟩ rfl (fun t232 h233 H => ?_)
      refine r_aln rfl rfl rfl ?_
      refine r_aln rfl rfl rfl ?_
      refine r_iln rfl rfl rfl ?_
      refine r_ic (v := 1) rfl ci_1 ?_
      refine r_add rfl ?_
      refine r_scr H rfl (fun t234 H => ?_)
      refine r_vtI (rest := [.int t232]) H rfl rfl rfl (s_X7_tellsMost 110 t234) rfl rfl ⟨rfl, rfl⟩ rfl (fun t235 h236 H => ?_)
      refine r_cmp H rfl rfl (fun H => ?_) (fun H => ?_)
      · refine r_inc (v := 5) (L' := [some (.ref SCR), some (.ref 0), some (.ref 110), some (.int (s1 + (5 : Int32)))]) rfl rfl ci_5 rfl ?_
        refine r_go rfl ?_
        have q := K2 _ _ H
        exact q
      · refine r_ic (v := 0) rfl ci_0 ?_
        exact r_retz H rfl rfl ⟨Nat.le_of_ble_eq_true rfl, Nat.le_of_ble_eq_true rfl⟩
    rw [if_neg h230] at H
    rcases Decidable.em ((t4 &&& (63 : Int32)) = (28 : Int32)) with h237 | h237
    · rw [if_pos h237] at H; refine r_tab (t := 678) rfl (by rw [h237]; rfl) ?_
      refine r_aln rfl rfl rfl ?_
      refine r_aln rfl rfl rfl ?_
      refine r_iln rfl rfl rfl ?_
      refine r_ic (v := 1) rfl ci_1 ?_
      refine r_add rfl ?_
      refine r_scr H rfl (fun t238 H => ?_)
      refine r_vtI (rest := []) H rfl rfl rfl (s_X6_photos 0 t238) rfl rfl ⟨rfl, rfl⟩ rfl (fun t239 h240 H => ?_)
      refine r_aln rfl rfl rfl ?_
      refine r_aln rfl rfl rfl ?_
      refine r_iln rfl rfl rfl ?_
      refine r_ic (v := 1) rfl ci_1 ?_
      refine r_add rfl ?_
      refine r_scr H rfl (fun t241 H => ?_)
      refine r_vtI (rest := [.int t239]) H rfl rfl rfl (s_X7_photos 110 t241) rfl rfl ⟨rfl, rfl⟩ rfl (fun t242 h243 H => ?_)
      refine r_cmp H rfl rfl (fun H => ?_) (fun H => ?_)
      · refine r_inc (v := 5) (L' := [some (.ref SCR), some (.ref 0), some (.ref 110), some (.int (s1 + (5 : Int32)))]) rfl rfl ci_5 rfl ?_
        refine r_go rfl ?_
        have q := K2 _ _ H
        exact q
      · refine r_ic (v := 0) rfl ci_0 ?_
        exact r_retz H rfl rfl ⟨Nat.le_of_ble_eq_true rfl, Nat.le_of_ble_eq_true rfl⟩
    rw [if_neg h237] at H
    rcases Decidable.em ((t4 &&& (63 : Int32)) = (29 : Int32)) with h244 | h244
    · rw [if_pos h244] at H; refine r_tab (t := 695) rfl (by rw [h244]; rfl) ?_
      refine r_aln rfl rfl rfl ?_
      refine r_aln rfl rfl rfl ?_
      refine r_iln rfl rfl rfl ?_
      refine r_ic (v := 1) rfl ci_1 ?_
      refine r_add rfl ?_
      refine r_scr H rfl (fun t245 H => ?_)
      refine r_aln rfl rfl rfl ?_
      refine r_iln rfl rfl rfl ?_
      refine r_ic (v := 2) rfl ci_2 ?_
      refine r_add rfl ?_
      refine r_scr H rfl (fun t246 H => ?_)
      refine r_vtI (rest := []) H rfl rfl rfl (s_X6_barber 0 t245 t246) rfl rfl ⟨rfl, rfl⟩ rfl (fun t247 h248 H => ?_)
      refine r_aln rfl rfl rfl ?_
      refine r_aln rfl rfl rfl ?_
      refine r_iln rfl rfl rfl ?_
      refine r_ic (v := 1) rfl ci_1 ?_
      refine r_add rfl ?_
      refine r_scr H rfl (fun t249 H => ?_)
      refine r_aln rfl rfl rfl ?_
      refine r_iln rfl rfl rfl ?_
      refine r_ic (v := 2) rfl ci_2 ?_
      refine r_add rfl ?_
      refine r_scr H rfl (fun t250 H => ?_)
      refine r_vtI (rest := [.int t247]) H rfl rfl rfl (s_X7_barber 110 t249 t250) rfl rfl ⟨rfl, rfl⟩ rfl (fun t251 h252 H => ?_)
      refine r_cmp H rfl rfl (fun H => ?_) (fun H => ?_)
      · refine r_inc (v := 5) (L' := [some (.ref SCR), some (.ref 0), some (.ref 110), some (.int (s1 + (5 : Int32)))]) rfl rfl ci_5 rfl ?_
        refine r_go rfl ?_
        have q := K2 _ _ H
        exact q
      · refine r_ic (v := 0) rfl ci_0 ?_
        exact r_retz H rfl rfl ⟨Nat.le_of_ble_eq_true rfl, Nat.le_of_ble_eq_true rfl⟩
    rw [if_neg h244] at H
    rcases Decidable.em ((t4 &&& (63 : Int32)) = (30 : Int32)) with h253 | h253
    · rw [if_pos h253] at H; refine r_tab (t := 722) rfl (by rw [h253]; rfl) ?_
      refine r_aln rfl rfl rfl ?_
      refine r_aln rfl rfl rfl ?_
      refine r_iln rfl rfl rfl ?_
      refine r_ic (v := 1) rfl ci_1 ?_
      refine r_add rfl ?_
      refine r_scr H rfl (fun t254 H => ?_)
      refine r_aln rfl rfl rfl ?_
      refine r_iln rfl rfl rfl ?_
      refine r_ic (v := 2) rfl ci_2 ?_
      refine r_add rfl ?_
      refine r_scr H rfl (fun t255 H => ?_)
      refine r_vtI (rest := []) H rfl rfl rfl (s_X6_steps 0 t254 t255) rfl rfl ⟨rfl, rfl⟩ rfl (fun t256 h257 H => ?_)
      refine r_aln rfl rfl rfl ?_
      refine r_aln rfl rfl rfl ?_
      refine r_iln rfl rfl rfl ?_
      refine r_ic (v := 1) rfl ci_1 ?_
      refine r_add rfl ?_
      refine r_scr H rfl (fun t258 H => ?_)
      refine r_aln rfl rfl rfl ?_
      refine r_iln rfl rfl rfl ?_
      refine r_ic (v := 2) rfl ci_2 ?_
      refine r_add rfl ?_
      refine r_scr H rfl (fun t259 H => ?_)
      refine r_vtI (rest := [.int t256]) H rfl rfl rfl (s_X7_steps 110 t258 t259) rfl rfl ⟨rfl, rfl⟩ rfl (fun t260 h261 H => ?_)
      refine r_cmp H rfl rfl (fun H => ?_) (fun H => ?_)
      · refine r_inc (v := 5) (L' := [some (.ref SCR), some (.ref 0), some (.ref 110), some (.int (s1 + (5 : Int32)))]) rfl rfl ci_5 rfl ?_
        refine r_go rfl ?_
        have q := K2 _ _ H
        exact q
      · refine r_ic (v := 0) rfl ci_0 ?_
        exact r_retz H rfl rfl ⟨Nat.le_of_ble_eq_true rfl, Nat.le_of_ble_eq_true rfl⟩
    rw [if_neg h253] at H
    rcases Decidable.em ((t4 &&& (63 : Int32)) = (31 : Int32)) with h262 | h262
    · rw [if_pos h262] at H; refine r_tab (t := 749) rfl (by rw [h262]; rfl) ?_
      refine r_aln rfl rfl rfl ?_
      refine r_aln rfl rfl rfl ?_
      refine r_iln rfl rfl rfl ?_
      refine r_ic (v := 1) rfl ci_1 ?_
      refine r_add rfl ?_
      refine r_scr H rfl (fun t263 H => ?_)
      refine r_aln rfl rfl rfl ?_
      refine r_iln rfl rfl rfl ?_
      refine r_ic (v := 2) rfl ci_2 ?_
      refine r_add rfl ?_
      refine r_scr H rfl (fun t264 H => ?_)
      refine r_aln rfl rfl rfl ?_
      refine r_iln rfl rfl rfl ?_
      refine r_ic (v := 3) rfl ci_3 ?_
      refine r_add rfl ?_
      refine r_scr H rfl (fun t265 H => ?_)
      refine r_vtI (rest := []) H rfl rfl rfl (s_X6_glances 0 t263 t264 t265) rfl rfl ⟨rfl, rfl⟩ rfl (fun t266 h267 H => ?_)
      refine r_aln rfl rfl rfl ?_
      refine r_aln rfl rfl rfl ?_
      refine r_iln rfl rfl rfl ?_
      refine r_ic (v := 1) rfl ci_1 ?_
      refine r_add rfl ?_
      refine r_scr H rfl (fun t268 H => ?_)
      refine r_aln rfl rfl rfl ?_
      refine r_iln rfl rfl rfl ?_
      refine r_ic (v := 2) rfl ci_2 ?_
      refine r_add rfl ?_
      refine r_scr H rfl (fun t269 H => ?_)
      refine r_aln rfl rfl rfl ?_
      refine r_iln rfl rfl rfl ?_
      refine r_ic (v := 3) rfl ci_3 ?_
      refine r_add rfl ?_
      refine r_scr H rfl (fun t270 H => ?_)
      refine r_vtI (rest := [.int t266]) H rfl rfl rfl (s_X7_glances 110 t268 t269 t270) rfl rfl ⟨rfl, rfl⟩ rfl (fun t271 h272 H => ?_)
      refine r_cmp H rfl rfl (fun H => ?_) (fun H => ?_)
      · refine r_inc (v := 5) (L' := [some (.ref SCR), some (.ref 0), some (.ref 110), some (.int (s1 + (5 : Int32)))]) rfl rfl ci_5 rfl ?_
        refine r_go rfl ?_
        have q := K2 _ _ H
        exact q
      · refine r_ic (v := 0) rfl ci_0 ?_
        exact r_retz H rfl rfl ⟨Nat.le_of_ble_eq_true rfl, Nat.le_of_ble_eq_true rfl⟩
    rw [if_neg h262] at H
    rcases Decidable.em ((t4 &&& (63 : Int32)) = (32 : Int32)) with h273 | h273
    · rw [if_pos h273] at H; refine r_tab (t := 786) rfl (by rw [h273]; rfl) ?_
      refine r_aln rfl rfl rfl ?_
      refine r_aln rfl rfl rfl ?_
      refine r_iln rfl rfl rfl ?_
      refine r_ic (v := 1) rfl ci_1 ?_
      refine r_add rfl ?_
      refine r_scr H rfl (fun t274 H => ?_)
      refine r_vtI (rest := []) H rfl rfl rfl (s_X6_unseen 0 t274) rfl rfl ⟨rfl, rfl⟩ rfl (fun t275 h276 H => ?_)
      refine r_aln rfl rfl rfl ?_
      refine r_aln rfl rfl rfl ?_
      refine r_iln rfl rfl rfl ?_
      refine r_ic (v := 1) rfl ci_1 ?_
      refine r_add rfl ?_
      refine r_scr H rfl (fun t277 H => ?_)
      refine r_vtI (rest := [.int t275]) H rfl rfl rfl (s_X7_unseen 110 t277) rfl rfl ⟨rfl, rfl⟩ rfl (fun t278 h279 H => ?_)
      refine r_cmp H rfl rfl (fun H => ?_) (fun H => ?_)
      · refine r_inc (v := 5) (L' := [some (.ref SCR), some (.ref 0), some (.ref 110), some (.int (s1 + (5 : Int32)))]) rfl rfl ci_5 rfl ?_
        refine r_go rfl ?_
        have q := K2 _ _ H
        exact q
      · refine r_ic (v := 0) rfl ci_0 ?_
        exact r_retz H rfl rfl ⟨Nat.le_of_ble_eq_true rfl, Nat.le_of_ble_eq_true rfl⟩
    rw [if_neg h273] at H
    rcases Decidable.em ((t4 &&& (63 : Int32)) = (33 : Int32)) with h280 | h280
    · rw [if_pos h280] at H; refine r_tab (t := 803) rfl (by rw [h280]; rfl) ?_
      refine r_aln rfl rfl rfl ?_
      refine r_aln rfl rfl rfl ?_
      refine r_iln rfl rfl rfl ?_
      refine r_ic (v := 1) rfl ci_1 ?_
      refine r_add rfl ?_
      refine r_scr H rfl (fun t281 H => ?_)
      refine r_aln rfl rfl rfl ?_
      refine r_iln rfl rfl rfl ?_
      refine r_ic (v := 2) rfl ci_2 ?_
      refine r_add rfl ?_
      refine r_scr H rfl (fun t282 H => ?_)
      refine r_vtI (rest := []) H rfl rfl rfl (s_X6_cover 0 t281 t282) rfl rfl ⟨rfl, rfl⟩ rfl (fun t283 h284 H => ?_)
      refine r_aln rfl rfl rfl ?_
      refine r_aln rfl rfl rfl ?_
      refine r_iln rfl rfl rfl ?_
      refine r_ic (v := 1) rfl ci_1 ?_
      refine r_add rfl ?_
      refine r_scr H rfl (fun t285 H => ?_)
      refine r_aln rfl rfl rfl ?_
      refine r_iln rfl rfl rfl ?_
      refine r_ic (v := 2) rfl ci_2 ?_
      refine r_add rfl ?_
      refine r_scr H rfl (fun t286 H => ?_)
      refine r_vtI (rest := [.int t283]) H rfl rfl rfl (s_X7_cover 110 t285 t286) rfl rfl ⟨rfl, rfl⟩ rfl (fun t287 h288 H => ?_)
      refine r_cmp H rfl rfl (fun H => ?_) (fun H => ?_)
      · refine r_inc (v := 5) (L' := [some (.ref SCR), some (.ref 0), some (.ref 110), some (.int (s1 + (5 : Int32)))]) rfl rfl ci_5 rfl ?_
        refine r_go rfl ?_
        have q := K2 _ _ H
        exact q
      · refine r_ic (v := 0) rfl ci_0 ?_
        exact r_retz H rfl rfl ⟨Nat.le_of_ble_eq_true rfl, Nat.le_of_ble_eq_true rfl⟩
    rw [if_neg h280] at H
    rcases Decidable.em ((t4 &&& (63 : Int32)) = (34 : Int32)) with h289 | h289
    · rw [if_pos h289] at H; refine r_tab (t := 830) rfl (by rw [h289]; rfl) ?_
      refine r_aln rfl rfl rfl ?_
      refine r_aln rfl rfl rfl ?_
      refine r_iln rfl rfl rfl ?_
      refine r_ic (v := 1) rfl ci_1 ?_
      refine r_add rfl ?_
      refine r_scr H rfl (fun t290 H => ?_)
      refine r_aln rfl rfl rfl ?_
      refine r_iln rfl rfl rfl ?_
      refine r_ic (v := 2) rfl ci_2 ?_
      refine r_add rfl ?_
      refine r_scr H rfl (fun t291 H => ?_)
      refine r_vtI (rest := []) H rfl rfl rfl (s_X6_bargain 0 t290 t291) rfl rfl ⟨rfl, rfl⟩ rfl (fun t292 h293 H => ?_)
      refine r_aln rfl rfl rfl ?_
      refine r_aln rfl rfl rfl ?_
      refine r_iln rfl rfl rfl ?_
      refine r_ic (v := 1) rfl ci_1 ?_
      refine r_add rfl ?_
      refine r_scr H rfl (fun t294 H => ?_)
      refine r_aln rfl rfl rfl ?_
      refine r_iln rfl rfl rfl ?_
      refine r_ic (v := 2) rfl ci_2 ?_
      refine r_add rfl ?_
      refine r_scr H rfl (fun t295 H => ?_)
      refine r_vtI (rest := [.int t292]) H rfl rfl rfl (s_X7_bargain 110 t294 t295) rfl rfl ⟨rfl, rfl⟩ rfl (fun t296 h297 H => ?_)
      refine r_cmp H rfl rfl (fun H => ?_) (fun H => ?_)
      · refine r_inc (v := 5) (L' := [some (.ref SCR), some (.ref 0), some (.ref 110), some (.int (s1 + (5 : Int32)))]) rfl rfl ci_5 rfl ?_
        refine r_go rfl ?_
        have q := K2 _ _ H
        exact q
      · refine r_ic (v := 0) rfl ci_0 ?_
        exact r_retz H rfl rfl ⟨Nat.le_of_ble_eq_true rfl, Nat.le_of_ble_eq_true rfl⟩
    rw [if_neg h289] at H
    rcases Decidable.em ((t4 &&& (63 : Int32)) = (35 : Int32)) with h298 | h298
    · rw [if_pos h298] at H; refine r_tab (t := 857) rfl (by rw [h298]; rfl) ?_
      refine r_aln rfl rfl rfl ?_
      refine r_aln rfl rfl rfl ?_
      refine r_iln rfl rfl rfl ?_
      refine r_ic (v := 1) rfl ci_1 ?_
      refine r_add rfl ?_
      refine r_scr H rfl (fun t299 H => ?_)
      refine r_vtI (rest := []) H rfl rfl rfl (s_X6_strike 0 t299) rfl rfl ⟨rfl, rfl⟩ rfl (fun t300 h301 H => ?_)
      refine r_aln rfl rfl rfl ?_
      refine r_aln rfl rfl rfl ?_
      refine r_iln rfl rfl rfl ?_
      refine r_ic (v := 1) rfl ci_1 ?_
      refine r_add rfl ?_
      refine r_scr H rfl (fun t302 H => ?_)
      refine r_vtI (rest := [.int t300]) H rfl rfl rfl (s_X7_strike 110 t302) rfl rfl ⟨rfl, rfl⟩ rfl (fun t303 h304 H => ?_)
      refine r_cmp H rfl rfl (fun H => ?_) (fun H => ?_)
      · refine r_inc (v := 5) (L' := [some (.ref SCR), some (.ref 0), some (.ref 110), some (.int (s1 + (5 : Int32)))]) rfl rfl ci_5 rfl ?_
        refine r_go rfl ?_
        have q := K2 _ _ H
        exact q
      · refine r_ic (v := 0) rfl ci_0 ?_
        exact r_retz H rfl rfl ⟨Nat.le_of_ble_eq_true rfl, Nat.le_of_ble_eq_true rfl⟩
    rw [if_neg h298] at H
    rcases Decidable.em ((t4 &&& (63 : Int32)) = (36 : Int32)) with h305 | h305
    · rw [if_pos h305] at H; refine r_tab (t := 874) rfl (by rw [h305]; rfl) ?_
      refine r_aln rfl rfl rfl ?_
      refine r_aln rfl rfl rfl ?_
      refine r_iln rfl rfl rfl ?_
      refine r_ic (v := 1) rfl ci_1 ?_
      refine r_add rfl ?_
      refine r_scr H rfl (fun t306 H => ?_)
      refine r_vtI (rest := []) H rfl rfl rfl (s_X6_echo 0 t306) rfl rfl ⟨rfl, rfl⟩ rfl (fun t307 h308 H => ?_)
      refine r_aln rfl rfl rfl ?_
      refine r_aln rfl rfl rfl ?_
      refine r_iln rfl rfl rfl ?_
      refine r_ic (v := 1) rfl ci_1 ?_
      refine r_add rfl ?_
      refine r_scr H rfl (fun t309 H => ?_)
      refine r_vtI (rest := [.int t307]) H rfl rfl rfl (s_X7_echo 110 t309) rfl rfl ⟨rfl, rfl⟩ rfl (fun t310 h311 H => ?_)
      refine r_cmp H rfl rfl (fun H => ?_) (fun H => ?_)
      · refine r_inc (v := 5) (L' := [some (.ref SCR), some (.ref 0), some (.ref 110), some (.int (s1 + (5 : Int32)))]) rfl rfl ci_5 rfl ?_
        refine r_go rfl ?_
        have q := K2 _ _ H
        exact q
      · refine r_ic (v := 0) rfl ci_0 ?_
        exact r_retz H rfl rfl ⟨Nat.le_of_ble_eq_true rfl, Nat.le_of_ble_eq_true rfl⟩
    rw [if_neg h305] at H
    rcases Decidable.em ((t4 &&& (63 : Int32)) = (37 : Int32)) with h312 | h312
    · rw [if_pos h312] at H; refine r_tab (t := 891) rfl (by rw [h312]; rfl) ?_
      refine r_aln rfl rfl rfl ?_
      refine r_aln rfl rfl rfl ?_
      refine r_iln rfl rfl rfl ?_
      refine r_ic (v := 1) rfl ci_1 ?_
      refine r_add rfl ?_
      refine r_scr H rfl (fun t313 H => ?_)
      refine r_vtI (rest := []) H rfl rfl rfl (s_X6_loops 0 t313) rfl rfl ⟨rfl, rfl⟩ rfl (fun t314 h315 H => ?_)
      refine r_aln rfl rfl rfl ?_
      refine r_aln rfl rfl rfl ?_
      refine r_iln rfl rfl rfl ?_
      refine r_ic (v := 1) rfl ci_1 ?_
      refine r_add rfl ?_
      refine r_scr H rfl (fun t316 H => ?_)
      refine r_vtI (rest := [.int t314]) H rfl rfl rfl (s_X7_loops 110 t316) rfl rfl ⟨rfl, rfl⟩ rfl (fun t317 h318 H => ?_)
      refine r_cmp H rfl rfl (fun H => ?_) (fun H => ?_)
      · refine r_inc (v := 5) (L' := [some (.ref SCR), some (.ref 0), some (.ref 110), some (.int (s1 + (5 : Int32)))]) rfl rfl ci_5 rfl ?_
        refine r_go rfl ?_
        have q := K2 _ _ H
        exact q
      · refine r_ic (v := 0) rfl ci_0 ?_
        exact r_retz H rfl rfl ⟨Nat.le_of_ble_eq_true rfl, Nat.le_of_ble_eq_true rfl⟩
    rw [if_neg h312] at H
    rcases Decidable.em ((t4 &&& (63 : Int32)) = (38 : Int32)) with h319 | h319
    · rw [if_pos h319] at H; refine r_tab (t := 908) rfl (by rw [h319]; rfl) ?_
      refine r_aln rfl rfl rfl ?_
      refine r_aln rfl rfl rfl ?_
      refine r_iln rfl rfl rfl ?_
      refine r_ic (v := 1) rfl ci_1 ?_
      refine r_add rfl ?_
      refine r_scr H rfl (fun t320 H => ?_)
      refine r_vtI (rest := []) H rfl rfl rfl (s_X6_humble 0 t320) rfl rfl ⟨rfl, rfl⟩ rfl (fun t321 h322 H => ?_)
      refine r_aln rfl rfl rfl ?_
      refine r_aln rfl rfl rfl ?_
      refine r_iln rfl rfl rfl ?_
      refine r_ic (v := 1) rfl ci_1 ?_
      refine r_add rfl ?_
      refine r_scr H rfl (fun t323 H => ?_)
      refine r_vtI (rest := [.int t321]) H rfl rfl rfl (s_X7_humble 110 t323) rfl rfl ⟨rfl, rfl⟩ rfl (fun t324 h325 H => ?_)
      refine r_cmp H rfl rfl (fun H => ?_) (fun H => ?_)
      · refine r_inc (v := 5) (L' := [some (.ref SCR), some (.ref 0), some (.ref 110), some (.int (s1 + (5 : Int32)))]) rfl rfl ci_5 rfl ?_
        refine r_go rfl ?_
        have q := K2 _ _ H
        exact q
      · refine r_ic (v := 0) rfl ci_0 ?_
        exact r_retz H rfl rfl ⟨Nat.le_of_ble_eq_true rfl, Nat.le_of_ble_eq_true rfl⟩
    rw [if_neg h319] at H
    rcases Decidable.em ((t4 &&& (63 : Int32)) = (39 : Int32)) with h326 | h326
    · rw [if_pos h326] at H; refine r_tab (t := 925) rfl (by rw [h326]; rfl) ?_
      refine r_aln rfl rfl rfl ?_
      refine r_aln rfl rfl rfl ?_
      refine r_iln rfl rfl rfl ?_
      refine r_ic (v := 1) rfl ci_1 ?_
      refine r_add rfl ?_
      refine r_scr H rfl (fun t327 H => ?_)
      refine r_aln rfl rfl rfl ?_
      refine r_iln rfl rfl rfl ?_
      refine r_ic (v := 2) rfl ci_2 ?_
      refine r_add rfl ?_
      refine r_scr H rfl (fun t328 H => ?_)
      refine r_vtI (rest := []) H rfl rfl rfl (s_X6_highest 0 t327 t328) rfl rfl ⟨rfl, rfl⟩ rfl (fun t329 h330 H => ?_)
      refine r_aln rfl rfl rfl ?_
      refine r_aln rfl rfl rfl ?_
      refine r_iln rfl rfl rfl ?_
      refine r_ic (v := 1) rfl ci_1 ?_
      refine r_add rfl ?_
      refine r_scr H rfl (fun t331 H => ?_)
      refine r_aln rfl rfl rfl ?_
      refine r_iln rfl rfl rfl ?_
      refine r_ic (v := 2) rfl ci_2 ?_
      refine r_add rfl ?_
      refine r_scr H rfl (fun t332 H => ?_)
      refine r_vtI (rest := [.int t329]) H rfl rfl rfl (s_X7_highest 110 t331 t332) rfl rfl ⟨rfl, rfl⟩ rfl (fun t333 h334 H => ?_)
      refine r_cmp H rfl rfl (fun H => ?_) (fun H => ?_)
      · refine r_inc (v := 5) (L' := [some (.ref SCR), some (.ref 0), some (.ref 110), some (.int (s1 + (5 : Int32)))]) rfl rfl ci_5 rfl ?_
        refine r_go rfl ?_
        have q := K2 _ _ H
        exact q
      · refine r_ic (v := 0) rfl ci_0 ?_
        exact r_retz H rfl rfl ⟨Nat.le_of_ble_eq_true rfl, Nat.le_of_ble_eq_true rfl⟩
    rw [if_neg h326] at H
    rcases Decidable.em ((t4 &&& (63 : Int32)) = (40 : Int32)) with h335 | h335
    · rw [if_pos h335] at H; refine r_tab (t := 952) rfl (by rw [h335]; rfl) ?_
      refine r_aln rfl rfl rfl ?_
      refine r_aln rfl rfl rfl ?_
      refine r_iln rfl rfl rfl ?_
      refine r_ic (v := 1) rfl ci_1 ?_
      refine r_add rfl ?_
      refine r_scr H rfl (fun t336 H => ?_)
      refine r_vtI (rest := []) H rfl rfl rfl (s_X6_spread 0 t336) rfl rfl ⟨rfl, rfl⟩ rfl (fun t337 h338 H => ?_)
      refine r_aln rfl rfl rfl ?_
      refine r_aln rfl rfl rfl ?_
      refine r_iln rfl rfl rfl ?_
      refine r_ic (v := 1) rfl ci_1 ?_
      refine r_add rfl ?_
      refine r_scr H rfl (fun t339 H => ?_)
      refine r_vtI (rest := [.int t337]) H rfl rfl rfl (s_X7_spread 110 t339) rfl rfl ⟨rfl, rfl⟩ rfl (fun t340 h341 H => ?_)
      refine r_cmp H rfl rfl (fun H => ?_) (fun H => ?_)
      · refine r_inc (v := 5) (L' := [some (.ref SCR), some (.ref 0), some (.ref 110), some (.int (s1 + (5 : Int32)))]) rfl rfl ci_5 rfl ?_
        refine r_go rfl ?_
        have q := K2 _ _ H
        exact q
      · refine r_ic (v := 0) rfl ci_0 ?_
        exact r_retz H rfl rfl ⟨Nat.le_of_ble_eq_true rfl, Nat.le_of_ble_eq_true rfl⟩
    rw [if_neg h335] at H
    rcases Decidable.em ((t4 &&& (63 : Int32)) = (41 : Int32)) with h342 | h342
    · rw [if_pos h342] at H; refine r_tab (t := 969) rfl (by rw [h342]; rfl) ?_
      refine r_aln rfl rfl rfl ?_
      refine r_vtI (rest := []) H rfl rfl rfl (s_X6_pairs 0) rfl rfl ⟨rfl, rfl⟩ rfl (fun t343 h344 H => ?_)
      refine r_aln rfl rfl rfl ?_
      refine r_vtI (rest := [.int t343]) H rfl rfl rfl (s_X7_pairs 110) rfl rfl ⟨rfl, rfl⟩ rfl (fun t345 h346 H => ?_)
      refine r_cmp H rfl rfl (fun H => ?_) (fun H => ?_)
      · refine r_inc (v := 5) (L' := [some (.ref SCR), some (.ref 0), some (.ref 110), some (.int (s1 + (5 : Int32)))]) rfl rfl ci_5 rfl ?_
        refine r_go rfl ?_
        have q := K2 _ _ H
        exact q
      · refine r_ic (v := 0) rfl ci_0 ?_
        exact r_retz H rfl rfl ⟨Nat.le_of_ble_eq_true rfl, Nat.le_of_ble_eq_true rfl⟩
    rw [if_neg h342] at H
    rcases Decidable.em ((t4 &&& (63 : Int32)) = (42 : Int32)) with h347 | h347
    · rw [if_pos h347] at H; refine r_tab (t := 976) rfl (by rw [h347]; rfl) ?_
      refine r_aln rfl rfl rfl ?_
      refine r_aln rfl rfl rfl ?_
      refine r_iln rfl rfl rfl ?_
      refine r_ic (v := 1) rfl ci_1 ?_
      refine r_add rfl ?_
      refine r_scr H rfl (fun t348 H => ?_)
      refine r_vtI (rest := []) H rfl rfl rfl (s_X6_calm 0 t348) rfl rfl ⟨rfl, rfl⟩ rfl (fun t349 h350 H => ?_)
      refine r_aln rfl rfl rfl ?_
      refine r_aln rfl rfl rfl ?_
      refine r_iln rfl rfl rfl ?_
      refine r_ic (v := 1) rfl ci_1 ?_
      refine r_add rfl ?_
      refine r_scr H rfl (fun t351 H => ?_)
      refine r_vtI (rest := [.int t349]) H rfl rfl rfl (s_X7_calm 110 t351) rfl rfl ⟨rfl, rfl⟩ rfl (fun t352 h353 H => ?_)
      refine r_cmp H rfl rfl (fun H => ?_) (fun H => ?_)
      · refine r_inc (v := 5) (L' := [some (.ref SCR), some (.ref 0), some (.ref 110), some (.int (s1 + (5 : Int32)))]) rfl rfl ci_5 rfl ?_
        refine r_go rfl ?_
        have q := K2 _ _ H
        exact q
      · refine r_ic (v := 0) rfl ci_0 ?_
        exact r_retz H rfl rfl ⟨Nat.le_of_ble_eq_true rfl, Nat.le_of_ble_eq_true rfl⟩
    rw [if_neg h347] at H
    rcases Decidable.em ((t4 &&& (63 : Int32)) = (43 : Int32)) with h354 | h354
    · rw [if_pos h354] at H; refine r_tab (t := 993) rfl (by rw [h354]; rfl) ?_
      refine r_aln rfl rfl rfl ?_
      refine r_aln rfl rfl rfl ?_
      refine r_iln rfl rfl rfl ?_
      refine r_ic (v := 1) rfl ci_1 ?_
      refine r_add rfl ?_
      refine r_scr H rfl (fun t355 H => ?_)
      refine r_vtI (rest := []) H rfl rfl rfl (s_X6_honest 0 t355) rfl rfl ⟨rfl, rfl⟩ rfl (fun t356 h357 H => ?_)
      refine r_aln rfl rfl rfl ?_
      refine r_aln rfl rfl rfl ?_
      refine r_iln rfl rfl rfl ?_
      refine r_ic (v := 1) rfl ci_1 ?_
      refine r_add rfl ?_
      refine r_scr H rfl (fun t358 H => ?_)
      refine r_vtI (rest := [.int t356]) H rfl rfl rfl (s_X7_honest 110 t358) rfl rfl ⟨rfl, rfl⟩ rfl (fun t359 h360 H => ?_)
      refine r_cmp H rfl rfl (fun H => ?_) (fun H => ?_)
      · refine r_inc (v := 5) (L' := [some (.ref SCR), some (.ref 0), some (.ref 110), some (.int (s1 + (5 : Int32)))]) rfl rfl ci_5 rfl ?_
        refine r_go rfl ?_
        have q := K2 _ _ H
        exact q
      · refine r_ic (v := 0) rfl ci_0 ?_
        exact r_retz H rfl rfl ⟨Nat.le_of_ble_eq_true rfl, Nat.le_of_ble_eq_true rfl⟩
    rw [if_neg h354] at H
    rcases Decidable.em ((t4 &&& (63 : Int32)) = (44 : Int32)) with h361 | h361
    · rw [if_pos h361] at H; refine r_tab (t := 1010) rfl (by rw [h361]; rfl) ?_
      refine r_aln rfl rfl rfl ?_
      refine r_aln rfl rfl rfl ?_
      refine r_iln rfl rfl rfl ?_
      refine r_ic (v := 1) rfl ci_1 ?_
      refine r_add rfl ?_
      refine r_scr H rfl (fun t362 H => ?_)
      refine r_aln rfl rfl rfl ?_
      refine r_iln rfl rfl rfl ?_
      refine r_ic (v := 2) rfl ci_2 ?_
      refine r_add rfl ?_
      refine r_scr H rfl (fun t363 H => ?_)
      refine r_vtI (rest := []) H rfl rfl rfl (s_X6_chain 0 t362 t363) rfl rfl ⟨rfl, rfl⟩ rfl (fun t364 h365 H => ?_)
      refine r_aln rfl rfl rfl ?_
      refine r_aln rfl rfl rfl ?_
      refine r_iln rfl rfl rfl ?_
      refine r_ic (v := 1) rfl ci_1 ?_
      refine r_add rfl ?_
      refine r_scr H rfl (fun t366 H => ?_)
      refine r_aln rfl rfl rfl ?_
      refine r_iln rfl rfl rfl ?_
      refine r_ic (v := 2) rfl ci_2 ?_
      refine r_add rfl ?_
      refine r_scr H rfl (fun t367 H => ?_)
      refine r_vtI (rest := [.int t364]) H rfl rfl rfl (s_X7_chain 110 t366 t367) rfl rfl ⟨rfl, rfl⟩ rfl (fun t368 h369 H => ?_)
      refine r_cmp H rfl rfl (fun H => ?_) (fun H => ?_)
      · refine r_inc (v := 5) (L' := [some (.ref SCR), some (.ref 0), some (.ref 110), some (.int (s1 + (5 : Int32)))]) rfl rfl ci_5 rfl ?_
        refine r_go rfl ?_
        have q := K2 _ _ H
        exact q
      · refine r_ic (v := 0) rfl ci_0 ?_
        exact r_retz H rfl rfl ⟨Nat.le_of_ble_eq_true rfl, Nat.le_of_ble_eq_true rfl⟩
    rw [if_neg h361] at H
    rcases Decidable.em ((t4 &&& (63 : Int32)) = (45 : Int32)) with h370 | h370
    · rw [if_pos h370] at H; refine r_tab (t := 1037) rfl (by rw [h370]; rfl) ?_
      refine r_aln rfl rfl rfl ?_
      refine r_vtI (rest := []) H rfl rfl rfl (s_X6_clique 0) rfl rfl ⟨rfl, rfl⟩ rfl (fun t371 h372 H => ?_)
      refine r_aln rfl rfl rfl ?_
      refine r_vtI (rest := [.int t371]) H rfl rfl rfl (s_X7_clique 110) rfl rfl ⟨rfl, rfl⟩ rfl (fun t373 h374 H => ?_)
      refine r_cmp H rfl rfl (fun H => ?_) (fun H => ?_)
      · refine r_inc (v := 5) (L' := [some (.ref SCR), some (.ref 0), some (.ref 110), some (.int (s1 + (5 : Int32)))]) rfl rfl ci_5 rfl ?_
        refine r_go rfl ?_
        have q := K2 _ _ H
        exact q
      · refine r_ic (v := 0) rfl ci_0 ?_
        exact r_retz H rfl rfl ⟨Nat.le_of_ble_eq_true rfl, Nat.le_of_ble_eq_true rfl⟩
    rw [if_neg h370] at H
    rcases Decidable.em ((t4 &&& (63 : Int32)) = (46 : Int32)) with h375 | h375
    · rw [if_pos h375] at H; refine r_tab (t := 1044) rfl (by rw [h375]; rfl) ?_
      refine r_aln rfl rfl rfl ?_
      refine r_aln rfl rfl rfl ?_
      refine r_iln rfl rfl rfl ?_
      refine r_ic (v := 1) rfl ci_1 ?_
      refine r_add rfl ?_
      refine r_scr H rfl (fun t376 H => ?_)
      refine r_aln rfl rfl rfl ?_
      refine r_iln rfl rfl rfl ?_
      refine r_ic (v := 2) rfl ci_2 ?_
      refine r_add rfl ?_
      refine r_scr H rfl (fun t377 H => ?_)
      refine r_vtI (rest := []) H rfl rfl rfl (s_X6_cut 0 t376 t377) rfl rfl ⟨rfl, rfl⟩ rfl (fun t378 h379 H => ?_)
      refine r_aln rfl rfl rfl ?_
      refine r_aln rfl rfl rfl ?_
      refine r_iln rfl rfl rfl ?_
      refine r_ic (v := 1) rfl ci_1 ?_
      refine r_add rfl ?_
      refine r_scr H rfl (fun t380 H => ?_)
      refine r_aln rfl rfl rfl ?_
      refine r_iln rfl rfl rfl ?_
      refine r_ic (v := 2) rfl ci_2 ?_
      refine r_add rfl ?_
      refine r_scr H rfl (fun t381 H => ?_)
      refine r_vtI (rest := [.int t378]) H rfl rfl rfl (s_X7_cut 110 t380 t381) rfl rfl ⟨rfl, rfl⟩ rfl (fun t382 h383 H => ?_)
      refine r_cmp H rfl rfl (fun H => ?_) (fun H => ?_)
      · refine r_inc (v := 5) (L' := [some (.ref SCR), some (.ref 0), some (.ref 110), some (.int (s1 + (5 : Int32)))]) rfl rfl ci_5 rfl ?_
        refine r_go rfl ?_
        have q := K2 _ _ H
        exact q
      · refine r_ic (v := 0) rfl ci_0 ?_
        exact r_retz H rfl rfl ⟨Nat.le_of_ble_eq_true rfl, Nat.le_of_ble_eq_true rfl⟩
    rw [if_neg h375] at H
    rcases Decidable.em ((t4 &&& (63 : Int32)) = (47 : Int32)) with h384 | h384
    · rw [if_pos h384] at H; refine r_tab (t := 1071) rfl (by rw [h384]; rfl) ?_
      refine r_aln rfl rfl rfl ?_
      refine r_aln rfl rfl rfl ?_
      refine r_iln rfl rfl rfl ?_
      refine r_ic (v := 1) rfl ci_1 ?_
      refine r_add rfl ?_
      refine r_scr H rfl (fun t385 H => ?_)
      refine r_aln rfl rfl rfl ?_
      refine r_iln rfl rfl rfl ?_
      refine r_ic (v := 2) rfl ci_2 ?_
      refine r_add rfl ?_
      refine r_scr H rfl (fun t386 H => ?_)
      refine r_vtI (rest := []) H rfl rfl rfl (s_X6_wanted 0 t385 t386) rfl rfl ⟨rfl, rfl⟩ rfl (fun t387 h388 H => ?_)
      refine r_aln rfl rfl rfl ?_
      refine r_aln rfl rfl rfl ?_
      refine r_iln rfl rfl rfl ?_
      refine r_ic (v := 1) rfl ci_1 ?_
      refine r_add rfl ?_
      refine r_scr H rfl (fun t389 H => ?_)
      refine r_aln rfl rfl rfl ?_
      refine r_iln rfl rfl rfl ?_
      refine r_ic (v := 2) rfl ci_2 ?_
      refine r_add rfl ?_
      refine r_scr H rfl (fun t390 H => ?_)
      refine r_vtI (rest := [.int t387]) H rfl rfl rfl (s_X7_wanted 110 t389 t390) rfl rfl ⟨rfl, rfl⟩ rfl (fun t391 h392 H => ?_)
      refine r_cmp H rfl rfl (fun H => ?_) (fun H => ?_)
      · refine r_inc (v := 5) (L' := [some (.ref SCR), some (.ref 0), some (.ref 110), some (.int (s1 + (5 : Int32)))]) rfl rfl ci_5 rfl ?_
        refine r_go rfl ?_
        have q := K2 _ _ H
        exact q
      · refine r_ic (v := 0) rfl ci_0 ?_
        exact r_retz H rfl rfl ⟨Nat.le_of_ble_eq_true rfl, Nat.le_of_ble_eq_true rfl⟩
    rw [if_neg h384] at H
    rcases Decidable.em ((t4 &&& (63 : Int32)) = (48 : Int32)) with h393 | h393
    · rw [if_pos h393] at H; refine r_tab (t := 1098) rfl (by rw [h393]; rfl) ?_
      refine r_aln rfl rfl rfl ?_
      refine r_aln rfl rfl rfl ?_
      refine r_iln rfl rfl rfl ?_
      refine r_ic (v := 1) rfl ci_1 ?_
      refine r_add rfl ?_
      refine r_scr H rfl (fun t394 H => ?_)
      refine r_aln rfl rfl rfl ?_
      refine r_iln rfl rfl rfl ?_
      refine r_ic (v := 2) rfl ci_2 ?_
      refine r_add rfl ?_
      refine r_scr H rfl (fun t395 H => ?_)
      refine r_vtI (rest := []) H rfl rfl rfl (s_X6_panel 0 t394 t395) rfl rfl ⟨rfl, rfl⟩ rfl (fun t396 h397 H => ?_)
      refine r_aln rfl rfl rfl ?_
      refine r_aln rfl rfl rfl ?_
      refine r_iln rfl rfl rfl ?_
      refine r_ic (v := 1) rfl ci_1 ?_
      refine r_add rfl ?_
      refine r_scr H rfl (fun t398 H => ?_)
      refine r_aln rfl rfl rfl ?_
      refine r_iln rfl rfl rfl ?_
      refine r_ic (v := 2) rfl ci_2 ?_
      refine r_add rfl ?_
      refine r_scr H rfl (fun t399 H => ?_)
      refine r_vtI (rest := [.int t396]) H rfl rfl rfl (s_X7_panel 110 t398 t399) rfl rfl ⟨rfl, rfl⟩ rfl (fun t400 h401 H => ?_)
      refine r_cmp H rfl rfl (fun H => ?_) (fun H => ?_)
      · refine r_inc (v := 5) (L' := [some (.ref SCR), some (.ref 0), some (.ref 110), some (.int (s1 + (5 : Int32)))]) rfl rfl ci_5 rfl ?_
        refine r_go rfl ?_
        have q := K2 _ _ H
        exact q
      · refine r_ic (v := 0) rfl ci_0 ?_
        exact r_retz H rfl rfl ⟨Nat.le_of_ble_eq_true rfl, Nat.le_of_ble_eq_true rfl⟩
    rw [if_neg h393] at H
    rcases Decidable.em ((t4 &&& (63 : Int32)) = (49 : Int32)) with h402 | h402
    · rw [if_pos h402] at H; refine r_tab (t := 1125) rfl (by rw [h402]; rfl) ?_
      refine r_aln rfl rfl rfl ?_
      refine r_aln rfl rfl rfl ?_
      refine r_iln rfl rfl rfl ?_
      refine r_ic (v := 1) rfl ci_1 ?_
      refine r_add rfl ?_
      refine r_scr H rfl (fun t403 H => ?_)
      refine r_aln rfl rfl rfl ?_
      refine r_iln rfl rfl rfl ?_
      refine r_ic (v := 2) rfl ci_2 ?_
      refine r_add rfl ?_
      refine r_scr H rfl (fun t404 H => ?_)
      refine r_vtI (rest := []) H rfl rfl rfl (s_X6_tour 0 t403 t404) rfl rfl ⟨rfl, rfl⟩ rfl (fun t405 h406 H => ?_)
      refine r_aln rfl rfl rfl ?_
      refine r_aln rfl rfl rfl ?_
      refine r_iln rfl rfl rfl ?_
      refine r_ic (v := 1) rfl ci_1 ?_
      refine r_add rfl ?_
      refine r_scr H rfl (fun t407 H => ?_)
      refine r_aln rfl rfl rfl ?_
      refine r_iln rfl rfl rfl ?_
      refine r_ic (v := 2) rfl ci_2 ?_
      refine r_add rfl ?_
      refine r_scr H rfl (fun t408 H => ?_)
      refine r_vtI (rest := [.int t405]) H rfl rfl rfl (s_X7_tour 110 t407 t408) rfl rfl ⟨rfl, rfl⟩ rfl (fun t409 h410 H => ?_)
      refine r_cmp H rfl rfl (fun H => ?_) (fun H => ?_)
      · refine r_inc (v := 5) (L' := [some (.ref SCR), some (.ref 0), some (.ref 110), some (.int (s1 + (5 : Int32)))]) rfl rfl ci_5 rfl ?_
        refine r_go rfl ?_
        have q := K2 _ _ H
        exact q
      · refine r_ic (v := 0) rfl ci_0 ?_
        exact r_retz H rfl rfl ⟨Nat.le_of_ble_eq_true rfl, Nat.le_of_ble_eq_true rfl⟩
    rw [if_neg h402] at H
    rcases Decidable.em ((t4 &&& (63 : Int32)) = (50 : Int32)) with h411 | h411
    · rw [if_pos h411] at H; refine r_tab (t := 1152) rfl (by rw [h411]; rfl) ?_
      refine r_aln rfl rfl rfl ?_
      refine r_aln rfl rfl rfl ?_
      refine r_iln rfl rfl rfl ?_
      refine r_ic (v := 1) rfl ci_1 ?_
      refine r_add rfl ?_
      refine r_scr H rfl (fun t412 H => ?_)
      refine r_aln rfl rfl rfl ?_
      refine r_iln rfl rfl rfl ?_
      refine r_ic (v := 2) rfl ci_2 ?_
      refine r_add rfl ?_
      refine r_scr H rfl (fun t413 H => ?_)
      refine r_vtI (rest := []) H rfl rfl rfl (s_X6_narrows 0 t412 t413) rfl rfl ⟨rfl, rfl⟩ rfl (fun t414 h415 H => ?_)
      refine r_aln rfl rfl rfl ?_
      refine r_aln rfl rfl rfl ?_
      refine r_iln rfl rfl rfl ?_
      refine r_ic (v := 1) rfl ci_1 ?_
      refine r_add rfl ?_
      refine r_scr H rfl (fun t416 H => ?_)
      refine r_aln rfl rfl rfl ?_
      refine r_iln rfl rfl rfl ?_
      refine r_ic (v := 2) rfl ci_2 ?_
      refine r_add rfl ?_
      refine r_scr H rfl (fun t417 H => ?_)
      refine r_vtI (rest := [.int t414]) H rfl rfl rfl (s_X7_narrows 110 t416 t417) rfl rfl ⟨rfl, rfl⟩ rfl (fun t418 h419 H => ?_)
      refine r_cmp H rfl rfl (fun H => ?_) (fun H => ?_)
      · refine r_inc (v := 5) (L' := [some (.ref SCR), some (.ref 0), some (.ref 110), some (.int (s1 + (5 : Int32)))]) rfl rfl ci_5 rfl ?_
        refine r_go rfl ?_
        have q := K2 _ _ H
        exact q
      · refine r_ic (v := 0) rfl ci_0 ?_
        exact r_retz H rfl rfl ⟨Nat.le_of_ble_eq_true rfl, Nat.le_of_ble_eq_true rfl⟩
    rw [if_neg h411] at H
    rcases Decidable.em ((t4 &&& (63 : Int32)) = (51 : Int32)) with h420 | h420
    · rw [if_pos h420] at H; refine r_tab (t := 1179) rfl (by rw [h420]; rfl) ?_
      refine r_aln rfl rfl rfl ?_
      refine r_aln rfl rfl rfl ?_
      refine r_iln rfl rfl rfl ?_
      refine r_ic (v := 1) rfl ci_1 ?_
      refine r_add rfl ?_
      refine r_scr H rfl (fun t421 H => ?_)
      refine r_aln rfl rfl rfl ?_
      refine r_iln rfl rfl rfl ?_
      refine r_ic (v := 2) rfl ci_2 ?_
      refine r_add rfl ?_
      refine r_scr H rfl (fun t422 H => ?_)
      refine r_vtI (rest := []) H rfl rfl rfl (s_X6_middle 0 t421 t422) rfl rfl ⟨rfl, rfl⟩ rfl (fun t423 h424 H => ?_)
      refine r_aln rfl rfl rfl ?_
      refine r_aln rfl rfl rfl ?_
      refine r_iln rfl rfl rfl ?_
      refine r_ic (v := 1) rfl ci_1 ?_
      refine r_add rfl ?_
      refine r_scr H rfl (fun t425 H => ?_)
      refine r_aln rfl rfl rfl ?_
      refine r_iln rfl rfl rfl ?_
      refine r_ic (v := 2) rfl ci_2 ?_
      refine r_add rfl ?_
      refine r_scr H rfl (fun t426 H => ?_)
      refine r_vtI (rest := [.int t423]) H rfl rfl rfl (s_X7_middle 110 t425 t426) rfl rfl ⟨rfl, rfl⟩ rfl (fun t427 h428 H => ?_)
      refine r_cmp H rfl rfl (fun H => ?_) (fun H => ?_)
      · refine r_inc (v := 5) (L' := [some (.ref SCR), some (.ref 0), some (.ref 110), some (.int (s1 + (5 : Int32)))]) rfl rfl ci_5 rfl ?_
        refine r_go rfl ?_
        have q := K2 _ _ H
        exact q
      · refine r_ic (v := 0) rfl ci_0 ?_
        exact r_retz H rfl rfl ⟨Nat.le_of_ble_eq_true rfl, Nat.le_of_ble_eq_true rfl⟩
    rw [if_neg h420] at H
    rcases Decidable.em ((t4 &&& (63 : Int32)) = (52 : Int32)) with h429 | h429
    · rw [if_pos h429] at H; refine r_tab (t := 1206) rfl (by rw [h429]; rfl) ?_
      refine r_aln rfl rfl rfl ?_
      refine r_aln rfl rfl rfl ?_
      refine r_iln rfl rfl rfl ?_
      refine r_ic (v := 1) rfl ci_1 ?_
      refine r_add rfl ?_
      refine r_scr H rfl (fun t430 H => ?_)
      refine r_aln rfl rfl rfl ?_
      refine r_iln rfl rfl rfl ?_
      refine r_ic (v := 2) rfl ci_2 ?_
      refine r_add rfl ?_
      refine r_scr H rfl (fun t431 H => ?_)
      refine r_aln rfl rfl rfl ?_
      refine r_iln rfl rfl rfl ?_
      refine r_ic (v := 3) rfl ci_3 ?_
      refine r_add rfl ?_
      refine r_scr H rfl (fun t432 H => ?_)
      refine r_vtI (rest := []) H rfl rfl rfl (s_X6_changed 0 t430 t431 t432) rfl rfl ⟨rfl, rfl⟩ rfl (fun t433 h434 H => ?_)
      refine r_aln rfl rfl rfl ?_
      refine r_aln rfl rfl rfl ?_
      refine r_iln rfl rfl rfl ?_
      refine r_ic (v := 1) rfl ci_1 ?_
      refine r_add rfl ?_
      refine r_scr H rfl (fun t435 H => ?_)
      refine r_aln rfl rfl rfl ?_
      refine r_iln rfl rfl rfl ?_
      refine r_ic (v := 2) rfl ci_2 ?_
      refine r_add rfl ?_
      refine r_scr H rfl (fun t436 H => ?_)
      refine r_aln rfl rfl rfl ?_
      refine r_iln rfl rfl rfl ?_
      refine r_ic (v := 3) rfl ci_3 ?_
      refine r_add rfl ?_
      refine r_scr H rfl (fun t437 H => ?_)
      refine r_vtI (rest := [.int t433]) H rfl rfl rfl (s_X7_changed 110 t435 t436 t437) rfl rfl ⟨rfl, rfl⟩ rfl (fun t438 h439 H => ?_)
      refine r_cmp H rfl rfl (fun H => ?_) (fun H => ?_)
      · refine r_inc (v := 5) (L' := [some (.ref SCR), some (.ref 0), some (.ref 110), some (.int (s1 + (5 : Int32)))]) rfl rfl ci_5 rfl ?_
        refine r_go rfl ?_
        have q := K2 _ _ H
        exact q
      · refine r_ic (v := 0) rfl ci_0 ?_
        exact r_retz H rfl rfl ⟨Nat.le_of_ble_eq_true rfl, Nat.le_of_ble_eq_true rfl⟩
    rw [if_neg h429] at H
    rcases Decidable.em ((t4 &&& (63 : Int32)) = (53 : Int32)) with h440 | h440
    · rw [if_pos h440] at H; refine r_tab (t := 1243) rfl (by rw [h440]; rfl) ?_
      refine r_aln rfl rfl rfl ?_
      refine r_aln rfl rfl rfl ?_
      refine r_iln rfl rfl rfl ?_
      refine r_ic (v := 1) rfl ci_1 ?_
      refine r_add rfl ?_
      refine r_scr H rfl (fun t441 H => ?_)
      refine r_vtI (rest := []) H rfl rfl rfl (s_X6_row 0 t441) rfl rfl ⟨rfl, rfl⟩ rfl (fun t442 h443 H => ?_)
      refine r_aln rfl rfl rfl ?_
      refine r_aln rfl rfl rfl ?_
      refine r_iln rfl rfl rfl ?_
      refine r_ic (v := 1) rfl ci_1 ?_
      refine r_add rfl ?_
      refine r_scr H rfl (fun t444 H => ?_)
      refine r_vtI (rest := [.int t442]) H rfl rfl rfl (s_X7_row 110 t444) rfl rfl ⟨rfl, rfl⟩ rfl (fun t445 h446 H => ?_)
      refine r_cmp H rfl rfl (fun H => ?_) (fun H => ?_)
      · refine r_inc (v := 5) (L' := [some (.ref SCR), some (.ref 0), some (.ref 110), some (.int (s1 + (5 : Int32)))]) rfl rfl ci_5 rfl ?_
        refine r_go rfl ?_
        have q := K2 _ _ H
        exact q
      · refine r_ic (v := 0) rfl ci_0 ?_
        exact r_retz H rfl rfl ⟨Nat.le_of_ble_eq_true rfl, Nat.le_of_ble_eq_true rfl⟩
    rw [if_neg h440] at H
    rcases Decidable.em ((t4 &&& (63 : Int32)) = (54 : Int32)) with h447 | h447
    · rw [if_pos h447] at H; refine r_tab (t := 1260) rfl (by rw [h447]; rfl) ?_
      refine r_aln rfl rfl rfl ?_
      refine r_vtI (rest := []) H rfl rfl rfl (s_X6_judge 0) rfl rfl ⟨rfl, rfl⟩ rfl (fun t448 h449 H => ?_)
      refine r_aln rfl rfl rfl ?_
      refine r_vtI (rest := [.int t448]) H rfl rfl rfl (s_X7_judge 110) rfl rfl ⟨rfl, rfl⟩ rfl (fun t450 h451 H => ?_)
      refine r_cmp H rfl rfl (fun H => ?_) (fun H => ?_)
      · refine r_inc (v := 5) (L' := [some (.ref SCR), some (.ref 0), some (.ref 110), some (.int (s1 + (5 : Int32)))]) rfl rfl ci_5 rfl ?_
        refine r_go rfl ?_
        have q := K2 _ _ H
        exact q
      · refine r_ic (v := 0) rfl ci_0 ?_
        exact r_retz H rfl rfl ⟨Nat.le_of_ble_eq_true rfl, Nat.le_of_ble_eq_true rfl⟩
    rw [if_neg h447] at H
    rcases Decidable.em ((t4 &&& (63 : Int32)) = (55 : Int32)) with h452 | h452
    · rw [if_pos h452] at H; refine r_tab (t := 1267) rfl (by rw [h452]; rfl) ?_
      refine r_aln rfl rfl rfl ?_
      refine r_vtI (rest := []) H rfl rfl rfl (s_X6_clear 0) rfl rfl ⟨rfl, rfl⟩ rfl (fun t453 h454 H => ?_)
      refine r_aln rfl rfl rfl ?_
      refine r_vtI (rest := [.int t453]) H rfl rfl rfl (s_X7_clear 110) rfl rfl ⟨rfl, rfl⟩ rfl (fun t455 h456 H => ?_)
      refine r_cmp H rfl rfl (fun H => ?_) (fun H => ?_)
      · refine r_inc (v := 5) (L' := [some (.ref SCR), some (.ref 0), some (.ref 110), some (.int (s1 + (5 : Int32)))]) rfl rfl ci_5 rfl ?_
        refine r_go rfl ?_
        have q := K2 _ _ H
        exact q
      · refine r_ic (v := 0) rfl ci_0 ?_
        exact r_retz H rfl rfl ⟨Nat.le_of_ble_eq_true rfl, Nat.le_of_ble_eq_true rfl⟩
    rw [if_neg h452] at H
    rcases Decidable.em ((t4 &&& (63 : Int32)) = (56 : Int32)) with h457 | h457
    · rw [if_pos h457] at H; refine r_tab (t := 1274) rfl (by rw [h457]; rfl) ?_
      refine r_aln rfl rfl rfl ?_
      refine r_aln rfl rfl rfl ?_
      refine r_iln rfl rfl rfl ?_
      refine r_ic (v := 1) rfl ci_1 ?_
      refine r_add rfl ?_
      refine r_scr H rfl (fun t458 H => ?_)
      refine r_aln rfl rfl rfl ?_
      refine r_iln rfl rfl rfl ?_
      refine r_ic (v := 2) rfl ci_2 ?_
      refine r_add rfl ?_
      refine r_scr H rfl (fun t459 H => ?_)
      refine r_aln rfl rfl rfl ?_
      refine r_iln rfl rfl rfl ?_
      refine r_ic (v := 3) rfl ci_3 ?_
      refine r_add rfl ?_
      refine r_scr H rfl (fun t460 H => ?_)
      refine r_vtI (rest := []) H rfl rfl rfl (s_X6_lots 0 t458 t459 t460) rfl rfl ⟨rfl, rfl⟩ rfl (fun t461 h462 H => ?_)
      refine r_aln rfl rfl rfl ?_
      refine r_aln rfl rfl rfl ?_
      refine r_iln rfl rfl rfl ?_
      refine r_ic (v := 1) rfl ci_1 ?_
      refine r_add rfl ?_
      refine r_scr H rfl (fun t463 H => ?_)
      refine r_aln rfl rfl rfl ?_
      refine r_iln rfl rfl rfl ?_
      refine r_ic (v := 2) rfl ci_2 ?_
      refine r_add rfl ?_
      refine r_scr H rfl (fun t464 H => ?_)
      refine r_aln rfl rfl rfl ?_
      refine r_iln rfl rfl rfl ?_
      refine r_ic (v := 3) rfl ci_3 ?_
      refine r_add rfl ?_
      refine r_scr H rfl (fun t465 H => ?_)
      refine r_vtI (rest := [.int t461]) H rfl rfl rfl (s_X7_lots 110 t463 t464 t465) rfl rfl ⟨rfl, rfl⟩ rfl (fun t466 h467 H => ?_)
      refine r_cmp H rfl rfl (fun H => ?_) (fun H => ?_)
      · refine r_inc (v := 5) (L' := [some (.ref SCR), some (.ref 0), some (.ref 110), some (.int (s1 + (5 : Int32)))]) rfl rfl ci_5 rfl ?_
        refine r_go rfl ?_
        have q := K2 _ _ H
        exact q
      · refine r_ic (v := 0) rfl ci_0 ?_
        exact r_retz H rfl rfl ⟨Nat.le_of_ble_eq_true rfl, Nat.le_of_ble_eq_true rfl⟩
    rw [if_neg h457] at H
    rcases Decidable.em ((t4 &&& (63 : Int32)) = (57 : Int32)) with h468 | h468
    · rw [if_pos h468] at H; refine r_tab (t := 1311) rfl (by rw [h468]; rfl) ?_
      refine r_aln rfl rfl rfl ?_
      refine r_vtI (rest := []) H rfl rfl rfl (s_X6_image 0) rfl rfl ⟨rfl, rfl⟩ rfl (fun t469 h470 H => ?_)
      refine r_aln rfl rfl rfl ?_
      refine r_vtI (rest := [.int t469]) H rfl rfl rfl (s_X7_image 110) rfl rfl ⟨rfl, rfl⟩ rfl (fun t471 h472 H => ?_)
      refine r_cmp H rfl rfl (fun H => ?_) (fun H => ?_)
      · refine r_inc (v := 5) (L' := [some (.ref SCR), some (.ref 0), some (.ref 110), some (.int (s1 + (5 : Int32)))]) rfl rfl ci_5 rfl ?_
        refine r_go rfl ?_
        have q := K2 _ _ H
        exact q
      · refine r_ic (v := 0) rfl ci_0 ?_
        exact r_retz H rfl rfl ⟨Nat.le_of_ble_eq_true rfl, Nat.le_of_ble_eq_true rfl⟩
    rw [if_neg h468] at H
    rcases Decidable.em ((t4 &&& (63 : Int32)) = (58 : Int32)) with h473 | h473
    · rw [if_pos h473] at H; refine r_tab (t := 1318) rfl (by rw [h473]; rfl) ?_
      refine r_aln rfl rfl rfl ?_
      refine r_vtI (rest := []) H rfl rfl rfl (s_X6_restore 0) rfl rfl ⟨rfl, rfl⟩ rfl (fun t474 h475 H => ?_)
      refine r_aln rfl rfl rfl ?_
      refine r_vtI (rest := [.int t474]) H rfl rfl rfl (s_X7_restore 110) rfl rfl ⟨rfl, rfl⟩ rfl (fun t476 h477 H => ?_)
      refine r_cmp H rfl rfl (fun H => ?_) (fun H => ?_)
      · refine r_inc (v := 5) (L' := [some (.ref SCR), some (.ref 0), some (.ref 110), some (.int (s1 + (5 : Int32)))]) rfl rfl ci_5 rfl ?_
        refine r_go rfl ?_
        have q := K2 _ _ H
        exact q
      · refine r_ic (v := 0) rfl ci_0 ?_
        exact r_retz H rfl rfl ⟨Nat.le_of_ble_eq_true rfl, Nat.le_of_ble_eq_true rfl⟩
    rw [if_neg h473] at H
    rcases Decidable.em ((t4 &&& (63 : Int32)) = (59 : Int32)) with h478 | h478
    · rw [if_pos h478] at H; refine r_tab (t := 1325) rfl (by rw [h478]; rfl) ?_
      refine r_aln rfl rfl rfl ?_
      refine r_aln rfl rfl rfl ?_
      refine r_iln rfl rfl rfl ?_
      refine r_ic (v := 1) rfl ci_1 ?_
      refine r_add rfl ?_
      refine r_scr H rfl (fun t479 H => ?_)
      refine r_vtI (rest := []) H rfl rfl rfl (s_X6_count 0 t479) rfl rfl ⟨rfl, rfl⟩ rfl (fun t480 h481 H => ?_)
      refine r_aln rfl rfl rfl ?_
      refine r_aln rfl rfl rfl ?_
      refine r_iln rfl rfl rfl ?_
      refine r_ic (v := 1) rfl ci_1 ?_
      refine r_add rfl ?_
      refine r_scr H rfl (fun t482 H => ?_)
      refine r_vtI (rest := [.int t480]) H rfl rfl rfl (s_X7_count 110 t482) rfl rfl ⟨rfl, rfl⟩ rfl (fun t483 h484 H => ?_)
      refine r_cmp H rfl rfl (fun H => ?_) (fun H => ?_)
      · refine r_inc (v := 5) (L' := [some (.ref SCR), some (.ref 0), some (.ref 110), some (.int (s1 + (5 : Int32)))]) rfl rfl ci_5 rfl ?_
        refine r_go rfl ?_
        have q := K2 _ _ H
        exact q
      · refine r_ic (v := 0) rfl ci_0 ?_
        exact r_retz H rfl rfl ⟨Nat.le_of_ble_eq_true rfl, Nat.le_of_ble_eq_true rfl⟩
    rw [if_neg h478] at H
    have g0 : (t4 &&& (63 : Int32)).toInt < 0 ∨ 0 < (t4 &&& (63 : Int32)).toInt := by have g := sw_ne h5 (v := 0) rfl; omega
    have g1 : (t4 &&& (63 : Int32)).toInt < 0 ∨ 1 < (t4 &&& (63 : Int32)).toInt := by have g := sw_ne h12 (v := 1) rfl; omega
    have g2 : (t4 &&& (63 : Int32)).toInt < 0 ∨ 2 < (t4 &&& (63 : Int32)).toInt := by have g := sw_ne h17 (v := 2) rfl; omega
    have g3 : (t4 &&& (63 : Int32)).toInt < 0 ∨ 3 < (t4 &&& (63 : Int32)).toInt := by have g := sw_ne h26 (v := 3) rfl; omega
    have g4 : (t4 &&& (63 : Int32)).toInt < 0 ∨ 4 < (t4 &&& (63 : Int32)).toInt := by have g := sw_ne h37 (v := 4) rfl; omega
    have g5 : (t4 &&& (63 : Int32)).toInt < 0 ∨ 5 < (t4 &&& (63 : Int32)).toInt := by have g := sw_ne h46 (v := 5) rfl; omega
    have g6 : (t4 &&& (63 : Int32)).toInt < 0 ∨ 6 < (t4 &&& (63 : Int32)).toInt := by have g := sw_ne h55 (v := 6) rfl; omega
    have g7 : (t4 &&& (63 : Int32)).toInt < 0 ∨ 7 < (t4 &&& (63 : Int32)).toInt := by have g := sw_ne h66 (v := 7) rfl; omega
    have g8 : (t4 &&& (63 : Int32)).toInt < 0 ∨ 8 < (t4 &&& (63 : Int32)).toInt := by have g := sw_ne h75 (v := 8) rfl; omega
    have g9 : (t4 &&& (63 : Int32)).toInt < 0 ∨ 9 < (t4 &&& (63 : Int32)).toInt := by have g := sw_ne h84 (v := 9) rfl; omega
    have g10 : (t4 &&& (63 : Int32)).toInt < 0 ∨ 10 < (t4 &&& (63 : Int32)).toInt := by have g := sw_ne h89 (v := 10) rfl; omega
    have g11 : (t4 &&& (63 : Int32)).toInt < 0 ∨ 11 < (t4 &&& (63 : Int32)).toInt := by have g := sw_ne h94 (v := 11) rfl; omega
    have g12 : (t4 &&& (63 : Int32)).toInt < 0 ∨ 12 < (t4 &&& (63 : Int32)).toInt := by have g := sw_ne h103 (v := 12) rfl; omega
    have g13 : (t4 &&& (63 : Int32)).toInt < 0 ∨ 13 < (t4 &&& (63 : Int32)).toInt := by have g := sw_ne h112 (v := 13) rfl; omega
    have g14 : (t4 &&& (63 : Int32)).toInt < 0 ∨ 14 < (t4 &&& (63 : Int32)).toInt := by have g := sw_ne h121 (v := 14) rfl; omega
    have g15 : (t4 &&& (63 : Int32)).toInt < 0 ∨ 15 < (t4 &&& (63 : Int32)).toInt := by have g := sw_ne h130 (v := 15) rfl; omega
    have g16 : (t4 &&& (63 : Int32)).toInt < 0 ∨ 16 < (t4 &&& (63 : Int32)).toInt := by have g := sw_ne h137 (v := 16) rfl; omega
    have g17 : (t4 &&& (63 : Int32)).toInt < 0 ∨ 17 < (t4 &&& (63 : Int32)).toInt := by have g := sw_ne h146 (v := 17) rfl; omega
    have g18 : (t4 &&& (63 : Int32)).toInt < 0 ∨ 18 < (t4 &&& (63 : Int32)).toInt := by have g := sw_ne h151 (v := 18) rfl; omega
    have g19 : (t4 &&& (63 : Int32)).toInt < 0 ∨ 19 < (t4 &&& (63 : Int32)).toInt := by have g := sw_ne h156 (v := 19) rfl; omega
    have g20 : (t4 &&& (63 : Int32)).toInt < 0 ∨ 20 < (t4 &&& (63 : Int32)).toInt := by have g := sw_ne h163 (v := 20) rfl; omega
    have g21 : (t4 &&& (63 : Int32)).toInt < 0 ∨ 21 < (t4 &&& (63 : Int32)).toInt := by have g := sw_ne h172 (v := 21) rfl; omega
    have g22 : (t4 &&& (63 : Int32)).toInt < 0 ∨ 22 < (t4 &&& (63 : Int32)).toInt := by have g := sw_ne h183 (v := 22) rfl; omega
    have g23 : (t4 &&& (63 : Int32)).toInt < 0 ∨ 23 < (t4 &&& (63 : Int32)).toInt := by have g := sw_ne h192 (v := 23) rfl; omega
    have g24 : (t4 &&& (63 : Int32)).toInt < 0 ∨ 24 < (t4 &&& (63 : Int32)).toInt := by have g := sw_ne h199 (v := 24) rfl; omega
    have g25 : (t4 &&& (63 : Int32)).toInt < 0 ∨ 25 < (t4 &&& (63 : Int32)).toInt := by have g := sw_ne h212 (v := 25) rfl; omega
    have g26 : (t4 &&& (63 : Int32)).toInt < 0 ∨ 26 < (t4 &&& (63 : Int32)).toInt := by have g := sw_ne h223 (v := 26) rfl; omega
    have g27 : (t4 &&& (63 : Int32)).toInt < 0 ∨ 27 < (t4 &&& (63 : Int32)).toInt := by have g := sw_ne h230 (v := 27) rfl; omega
    have g28 : (t4 &&& (63 : Int32)).toInt < 0 ∨ 28 < (t4 &&& (63 : Int32)).toInt := by have g := sw_ne h237 (v := 28) rfl; omega
    have g29 : (t4 &&& (63 : Int32)).toInt < 0 ∨ 29 < (t4 &&& (63 : Int32)).toInt := by have g := sw_ne h244 (v := 29) rfl; omega
    have g30 : (t4 &&& (63 : Int32)).toInt < 0 ∨ 30 < (t4 &&& (63 : Int32)).toInt := by have g := sw_ne h253 (v := 30) rfl; omega
    have g31 : (t4 &&& (63 : Int32)).toInt < 0 ∨ 31 < (t4 &&& (63 : Int32)).toInt := by have g := sw_ne h262 (v := 31) rfl; omega
    have g32 : (t4 &&& (63 : Int32)).toInt < 0 ∨ 32 < (t4 &&& (63 : Int32)).toInt := by have g := sw_ne h273 (v := 32) rfl; omega
    have g33 : (t4 &&& (63 : Int32)).toInt < 0 ∨ 33 < (t4 &&& (63 : Int32)).toInt := by have g := sw_ne h280 (v := 33) rfl; omega
    have g34 : (t4 &&& (63 : Int32)).toInt < 0 ∨ 34 < (t4 &&& (63 : Int32)).toInt := by have g := sw_ne h289 (v := 34) rfl; omega
    have g35 : (t4 &&& (63 : Int32)).toInt < 0 ∨ 35 < (t4 &&& (63 : Int32)).toInt := by have g := sw_ne h298 (v := 35) rfl; omega
    have g36 : (t4 &&& (63 : Int32)).toInt < 0 ∨ 36 < (t4 &&& (63 : Int32)).toInt := by have g := sw_ne h305 (v := 36) rfl; omega
    have g37 : (t4 &&& (63 : Int32)).toInt < 0 ∨ 37 < (t4 &&& (63 : Int32)).toInt := by have g := sw_ne h312 (v := 37) rfl; omega
    have g38 : (t4 &&& (63 : Int32)).toInt < 0 ∨ 38 < (t4 &&& (63 : Int32)).toInt := by have g := sw_ne h319 (v := 38) rfl; omega
    have g39 : (t4 &&& (63 : Int32)).toInt < 0 ∨ 39 < (t4 &&& (63 : Int32)).toInt := by have g := sw_ne h326 (v := 39) rfl; omega
    have g40 : (t4 &&& (63 : Int32)).toInt < 0 ∨ 40 < (t4 &&& (63 : Int32)).toInt := by have g := sw_ne h335 (v := 40) rfl; omega
    have g41 : (t4 &&& (63 : Int32)).toInt < 0 ∨ 41 < (t4 &&& (63 : Int32)).toInt := by have g := sw_ne h342 (v := 41) rfl; omega
    have g42 : (t4 &&& (63 : Int32)).toInt < 0 ∨ 42 < (t4 &&& (63 : Int32)).toInt := by have g := sw_ne h347 (v := 42) rfl; omega
    have g43 : (t4 &&& (63 : Int32)).toInt < 0 ∨ 43 < (t4 &&& (63 : Int32)).toInt := by have g := sw_ne h354 (v := 43) rfl; omega
    have g44 : (t4 &&& (63 : Int32)).toInt < 0 ∨ 44 < (t4 &&& (63 : Int32)).toInt := by have g := sw_ne h361 (v := 44) rfl; omega
    have g45 : (t4 &&& (63 : Int32)).toInt < 0 ∨ 45 < (t4 &&& (63 : Int32)).toInt := by have g := sw_ne h370 (v := 45) rfl; omega
    have g46 : (t4 &&& (63 : Int32)).toInt < 0 ∨ 46 < (t4 &&& (63 : Int32)).toInt := by have g := sw_ne h375 (v := 46) rfl; omega
    have g47 : (t4 &&& (63 : Int32)).toInt < 0 ∨ 47 < (t4 &&& (63 : Int32)).toInt := by have g := sw_ne h384 (v := 47) rfl; omega
    have g48 : (t4 &&& (63 : Int32)).toInt < 0 ∨ 48 < (t4 &&& (63 : Int32)).toInt := by have g := sw_ne h393 (v := 48) rfl; omega
    have g49 : (t4 &&& (63 : Int32)).toInt < 0 ∨ 49 < (t4 &&& (63 : Int32)).toInt := by have g := sw_ne h402 (v := 49) rfl; omega
    have g50 : (t4 &&& (63 : Int32)).toInt < 0 ∨ 50 < (t4 &&& (63 : Int32)).toInt := by have g := sw_ne h411 (v := 50) rfl; omega
    have g51 : (t4 &&& (63 : Int32)).toInt < 0 ∨ 51 < (t4 &&& (63 : Int32)).toInt := by have g := sw_ne h420 (v := 51) rfl; omega
    have g52 : (t4 &&& (63 : Int32)).toInt < 0 ∨ 52 < (t4 &&& (63 : Int32)).toInt := by have g := sw_ne h429 (v := 52) rfl; omega
    have g53 : (t4 &&& (63 : Int32)).toInt < 0 ∨ 53 < (t4 &&& (63 : Int32)).toInt := by have g := sw_ne h440 (v := 53) rfl; omega
    have g54 : (t4 &&& (63 : Int32)).toInt < 0 ∨ 54 < (t4 &&& (63 : Int32)).toInt := by have g := sw_ne h447 (v := 54) rfl; omega
    have g55 : (t4 &&& (63 : Int32)).toInt < 0 ∨ 55 < (t4 &&& (63 : Int32)).toInt := by have g := sw_ne h452 (v := 55) rfl; omega
    have g56 : (t4 &&& (63 : Int32)).toInt < 0 ∨ 56 < (t4 &&& (63 : Int32)).toInt := by have g := sw_ne h457 (v := 56) rfl; omega
    have g57 : (t4 &&& (63 : Int32)).toInt < 0 ∨ 57 < (t4 &&& (63 : Int32)).toInt := by have g := sw_ne h468 (v := 57) rfl; omega
    have g58 : (t4 &&& (63 : Int32)).toInt < 0 ∨ 58 < (t4 &&& (63 : Int32)).toInt := by have g := sw_ne h473 (v := 58) rfl; omega
    have g59 : (t4 &&& (63 : Int32)).toInt < 0 ∨ 59 < (t4 &&& (63 : Int32)).toInt := by have g := sw_ne h478 (v := 59) rfl; omega
    refine r_tab (t := 1342) rfl ((sw_out g59).trans rfl) ?_
    refine r_inc (v := 5) (L' := [some (.ref SCR), some (.ref 0), some (.ref 110), some (.int (s1 + (5 : Int32)))]) rfl rfl ci_5 rfl ?_
    refine r_go rfl ?_
    have q := K2 _ _ H
    exact q
