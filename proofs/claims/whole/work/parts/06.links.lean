theorem ini_10 : Cond.initialized RL ∈ tbl := tb_in 54 (by decide +kernel) (by decide +kernel)
theorem ini_6 : Cond.initialized RX6 ∈ tbl := tb_in 55 (by decide +kernel) (by decide +kernel)
theorem ini_3 : Cond.initialized RX3 ∈ tbl := tb_in 56 (by decide +kernel) (by decide +kernel)
theorem ini_1 : Cond.initialized RX1 ∈ tbl := tb_in 57 (by decide +kernel) (by decide +kernel)
theorem ini_0 : Cond.initialized RX0 ∈ tbl := tb_in 58 (by decide +kernel) (by decide +kernel)
theorem ini_4 : Cond.initialized RX4 ∈ tbl := tb_in 59 (by decide +kernel) (by decide +kernel)
theorem ini_5 : Cond.initialized RX5 ∈ tbl := tb_in 60 (by decide +kernel) (by decide +kernel)
theorem ini_2 : Cond.initialized RX2 ∈ tbl := tb_in 61 (by decide +kernel) (by decide +kernel)
theorem ini_7 : Cond.initialized RX7 ∈ tbl := tb_in 62 (by decide +kernel) (by decide +kernel)
theorem ini_8 : Cond.initialized RJ6 ∈ tbl := tb_in 63 (by decide +kernel) (by decide +kernel)
theorem ini_9 : Cond.initialized RJ9 ∈ tbl := tb_in 64 (by decide +kernel) (by decide +kernel)
set_option maxRecDepth 20000 in
theorem cd_X6_moment : Cond.code yX6_moment cX6_moment 5 (some .int) ∈ tbl := tb_in 226 rfl rfl
theorem im_X6_moment : Cond.instanceMethod yX6_moment ∈ tbl := tb_in 224 (by decide +kernel) (by decide +kernel)
theorem se_X6_moment : Cond.selects yX6_moment.cls yX6_moment yX6_moment ∈ tbl := tb_in 225 (by decide +kernel) (by decide +kernel)
theorem pd_X6_moment : yX6_moment.cls ≠ "java/lang/invoke/MethodHandle" ∧ yX6_moment.cls ≠ "java/lang/invoke/VarHandle" ∧ (parseMethodDescriptor yX6_moment.desc).map (fun d => d.parameters.length) = some 2 := by decide +kernel
theorem lk_10_13 : LkV 10 13 yX6_moment cX6_moment 5 2 (some .int) := ⟨tb_in 223 (by decide +kernel) (by decide +kernel), im_X6_moment, se_X6_moment, ini_6, cd_X6_moment, pd_X6_moment⟩
set_option maxRecDepth 20000 in
theorem cd_X3_at : Cond.code yX3_at cX3_at 2 (some .int) ∈ tbl := tb_in 230 rfl rfl
theorem im_X3_at : Cond.instanceMethod yX3_at ∈ tbl := tb_in 228 (by decide +kernel) (by decide +kernel)
theorem se_X3_at : Cond.selects yX3_at.cls yX3_at yX3_at ∈ tbl := tb_in 229 (by decide +kernel) (by decide +kernel)
theorem pd_X3_at : yX3_at.cls ≠ "java/lang/invoke/MethodHandle" ∧ yX3_at.cls ≠ "java/lang/invoke/VarHandle" ∧ (parseMethodDescriptor yX3_at.desc).map (fun d => d.parameters.length) = some 1 := by decide +kernel
theorem lk_6_61 : LkV 6 61 yX3_at cX3_at 2 1 (some .int) := ⟨tb_in 227 (by decide +kernel) (by decide +kernel), im_X3_at, se_X3_at, ini_3, cd_X3_at, pd_X3_at⟩
set_option maxRecDepth 20000 in
theorem cd_X3_copy : Cond.code yX3_copy cX3_copy 3 none ∈ tbl := tb_in 234 rfl rfl
theorem im_X3_copy : Cond.instanceMethod yX3_copy ∈ tbl := tb_in 232 (by decide +kernel) (by decide +kernel)
theorem se_X3_copy : Cond.selects yX3_copy.cls yX3_copy yX3_copy ∈ tbl := tb_in 233 (by decide +kernel) (by decide +kernel)
theorem pd_X3_copy : yX3_copy.cls ≠ "java/lang/invoke/MethodHandle" ∧ yX3_copy.cls ≠ "java/lang/invoke/VarHandle" ∧ (parseMethodDescriptor yX3_copy.desc).map (fun d => d.parameters.length) = some 1 := by decide +kernel
theorem lk_6_65 : LkV 6 65 yX3_copy cX3_copy 3 1 none := ⟨tb_in 231 (by decide +kernel) (by decide +kernel), im_X3_copy, se_X3_copy, ini_3, cd_X3_copy, pd_X3_copy⟩
theorem lk_3_38 : LkV 3 38 yX3_at cX3_at 2 1 (some .int) := ⟨tb_in 235 (by decide +kernel) (by decide +kernel), im_X3_at, se_X3_at, ini_3, cd_X3_at, pd_X3_at⟩
set_option maxRecDepth 20000 in
theorem cd_X3_size : Cond.code yX3_size cX3_size 1 (some .int) ∈ tbl := tb_in 239 rfl rfl
theorem im_X3_size : Cond.instanceMethod yX3_size ∈ tbl := tb_in 237 (by decide +kernel) (by decide +kernel)
theorem se_X3_size : Cond.selects yX3_size.cls yX3_size yX3_size ∈ tbl := tb_in 238 (by decide +kernel) (by decide +kernel)
theorem pd_X3_size : yX3_size.cls ≠ "java/lang/invoke/MethodHandle" ∧ yX3_size.cls ≠ "java/lang/invoke/VarHandle" ∧ (parseMethodDescriptor yX3_size.desc).map (fun d => d.parameters.length) = some 0 := by decide +kernel
theorem lk_3_42 : LkV 3 42 yX3_size cX3_size 1 0 (some .int) := ⟨tb_in 236 (by decide +kernel) (by decide +kernel), im_X3_size, se_X3_size, ini_3, cd_X3_size, pd_X3_size⟩
set_option maxRecDepth 20000 in
theorem cd_X3_put : Cond.code yX3_put cX3_put 3 (some .int) ∈ tbl := tb_in 243 rfl rfl
theorem im_X3_put : Cond.instanceMethod yX3_put ∈ tbl := tb_in 241 (by decide +kernel) (by decide +kernel)
theorem se_X3_put : Cond.selects yX3_put.cls yX3_put yX3_put ∈ tbl := tb_in 242 (by decide +kernel) (by decide +kernel)
theorem pd_X3_put : yX3_put.cls ≠ "java/lang/invoke/MethodHandle" ∧ yX3_put.cls ≠ "java/lang/invoke/VarHandle" ∧ (parseMethodDescriptor yX3_put.desc).map (fun d => d.parameters.length) = some 2 := by decide +kernel
theorem lk_6_69 : LkV 6 69 yX3_put cX3_put 3 2 (some .int) := ⟨tb_in 240 (by decide +kernel) (by decide +kernel), im_X3_put, se_X3_put, ini_3, cd_X3_put, pd_X3_put⟩
set_option maxRecDepth 20000 in
theorem cd_X6_isOutside : Cond.code yX6_isOutside cX6_isOutside 3 (some .boolean) ∈ tbl := tb_in 246 rfl rfl
theorem sa_X6_isOutside : Cond.static yX6_isOutside ∈ tbl := tb_in 245 (by decide +kernel) (by decide +kernel)
theorem pd_X6_isOutside : yX6_isOutside.cls ≠ "java/lang/invoke/MethodHandle" ∧ yX6_isOutside.cls ≠ "java/lang/invoke/VarHandle" ∧ (parseMethodDescriptor yX6_isOutside.desc).map (fun d => d.parameters.length) = some 3 := by decide +kernel
theorem lk_3_45 : LkN 3 45 yX6_isOutside cX6_isOutside 3 3 (some .boolean) := ⟨by decide +kernel, sa_X6_isOutside, ini_6, cd_X6_isOutside, pd_X6_isOutside⟩
set_option maxRecDepth 20000 in
theorem cd_X3_isNoMoment : Cond.code yX3_isNoMoment cX3_isNoMoment 1 (some .boolean) ∈ tbl := tb_in 249 rfl rfl
theorem sa_X3_isNoMoment : Cond.static yX3_isNoMoment ∈ tbl := tb_in 248 (by decide +kernel) (by decide +kernel)
theorem pd_X3_isNoMoment : yX3_isNoMoment.cls ≠ "java/lang/invoke/MethodHandle" ∧ yX3_isNoMoment.cls ≠ "java/lang/invoke/VarHandle" ∧ (parseMethodDescriptor yX3_isNoMoment.desc).map (fun d => d.parameters.length) = some 1 := by decide +kernel
theorem lk_3_49 : LkS 3 49 yX3_isNoMoment cX3_isNoMoment 1 1 (some .boolean) := ⟨tb_in 247 (by decide +kernel) (by decide +kernel), sa_X3_isNoMoment, ini_3, cd_X3_isNoMoment, pd_X3_isNoMoment⟩
set_option maxRecDepth 20000 in
theorem cd_X6_refuse : Cond.code yX6_refuse cX6_refuse 2 (some .int) ∈ tbl := tb_in 254 rfl rfl
theorem im_X6_refuse : Cond.instanceMethod yX6_refuse ∈ tbl := tb_in 253 (by decide +kernel) (by decide +kernel)
theorem se_X6_refuse : Cond.selects yX6_refuse.cls yX6_refuse yX6_refuse ∈ tbl := tb_in 0 (by decide +kernel) (by decide +kernel)
theorem pd_X6_refuse : yX6_refuse.cls ≠ "java/lang/invoke/MethodHandle" ∧ yX6_refuse.cls ≠ "java/lang/invoke/VarHandle" ∧ (parseMethodDescriptor yX6_refuse.desc).map (fun d => d.parameters.length) = some 1 := by decide +kernel
theorem lk_6_73 : LkV 6 73 yX6_refuse cX6_refuse 2 1 (some .int) := ⟨tb_in 251 (by decide +kernel) (by decide +kernel), im_X6_refuse, se_X6_refuse, ini_6, cd_X6_refuse, pd_X6_refuse⟩
set_option maxRecDepth 20000 in
theorem cd_X6_keepTrial : Cond.code yX6_keepTrial cX6_keepTrial 1 none ∈ tbl := tb_in 260 rfl rfl
theorem im_X6_keepTrial : Cond.instanceMethod yX6_keepTrial ∈ tbl := tb_in 259 (by decide +kernel) (by decide +kernel)
theorem se_X6_keepTrial : Cond.selects yX6_keepTrial.cls yX6_keepTrial yX6_keepTrial ∈ tbl := tb_in 1 (by decide +kernel) (by decide +kernel)
theorem pd_X6_keepTrial : yX6_keepTrial.cls ≠ "java/lang/invoke/MethodHandle" ∧ yX6_keepTrial.cls ≠ "java/lang/invoke/VarHandle" ∧ (parseMethodDescriptor yX6_keepTrial.desc).map (fun d => d.parameters.length) = some 0 := by decide +kernel
theorem lk_6_76 : LkV 6 76 yX6_keepTrial cX6_keepTrial 1 0 none := ⟨tb_in 257 (by decide +kernel) (by decide +kernel), im_X6_keepTrial, se_X6_keepTrial, ini_6, cd_X6_keepTrial, pd_X6_keepTrial⟩
set_option maxRecDepth 20000 in
theorem cd_X4_push : Cond.code yX4_push cX4_push 2 none ∈ tbl := tb_in 264 rfl rfl
theorem im_X4_push : Cond.instanceMethod yX4_push ∈ tbl := tb_in 262 (by decide +kernel) (by decide +kernel)
theorem se_X4_push : Cond.selects yX4_push.cls yX4_push yX4_push ∈ tbl := tb_in 263 (by decide +kernel) (by decide +kernel)
theorem pd_X4_push : yX4_push.cls ≠ "java/lang/invoke/MethodHandle" ∧ yX4_push.cls ≠ "java/lang/invoke/VarHandle" ∧ (parseMethodDescriptor yX4_push.desc).map (fun d => d.parameters.length) = some 1 := by decide +kernel
theorem lk_6_232 : LkV 6 232 yX4_push cX4_push 2 1 none := ⟨tb_in 261 (by decide +kernel) (by decide +kernel), im_X4_push, se_X4_push, ini_4, cd_X4_push, pd_X4_push⟩
set_option maxRecDepth 20000 in
theorem cd_X4_place : Cond.code yX4_place cX4_place 2 (some .int) ∈ tbl := tb_in 268 rfl rfl
theorem im_X4_place : Cond.instanceMethod yX4_place ∈ tbl := tb_in 267 (by decide +kernel) (by decide +kernel)
theorem se_X4_place : Cond.selects yX4_place.cls yX4_place yX4_place ∈ tbl := tb_in 2 (by decide +kernel) (by decide +kernel)
theorem pd_X4_place : yX4_place.cls ≠ "java/lang/invoke/MethodHandle" ∧ yX4_place.cls ≠ "java/lang/invoke/VarHandle" ∧ (parseMethodDescriptor yX4_place.desc).map (fun d => d.parameters.length) = some 1 := by decide +kernel
theorem lk_4_22 : LkV 4 22 yX4_place cX4_place 2 1 (some .int) := ⟨tb_in 265 (by decide +kernel) (by decide +kernel), im_X4_place, se_X4_place, ini_4, cd_X4_place, pd_X4_place⟩
set_option maxRecDepth 20000 in
theorem cd_X3_save : Cond.code yX3_save cX3_save 4 none ∈ tbl := tb_in 272 rfl rfl
theorem im_X3_save : Cond.instanceMethod yX3_save ∈ tbl := tb_in 270 (by decide +kernel) (by decide +kernel)
theorem se_X3_save : Cond.selects yX3_save.cls yX3_save yX3_save ∈ tbl := tb_in 271 (by decide +kernel) (by decide +kernel)
theorem pd_X3_save : yX3_save.cls ≠ "java/lang/invoke/MethodHandle" ∧ yX3_save.cls ≠ "java/lang/invoke/VarHandle" ∧ (parseMethodDescriptor yX3_save.desc).map (fun d => d.parameters.length) = some 2 := by decide +kernel
theorem lk_4_26 : LkV 4 26 yX3_save cX3_save 4 2 none := ⟨tb_in 269 (by decide +kernel) (by decide +kernel), im_X3_save, se_X3_save, ini_3, cd_X3_save, pd_X3_save⟩
set_option maxRecDepth 20000 in
theorem cd_X6_more : Cond.code yX6_more cX6_more 3 (some .int) ∈ tbl := tb_in 276 rfl rfl
theorem im_X6_more : Cond.instanceMethod yX6_more ∈ tbl := tb_in 274 (by decide +kernel) (by decide +kernel)
theorem se_X6_more : Cond.selects yX6_more.cls yX6_more yX6_more ∈ tbl := tb_in 275 (by decide +kernel) (by decide +kernel)
theorem pd_X6_more : yX6_more.cls ≠ "java/lang/invoke/MethodHandle" ∧ yX6_more.cls ≠ "java/lang/invoke/VarHandle" ∧ (parseMethodDescriptor yX6_more.desc).map (fun d => d.parameters.length) = some 1 := by decide +kernel
theorem lk_10_18 : LkV 10 18 yX6_more cX6_more 3 1 (some .int) := ⟨tb_in 273 (by decide +kernel) (by decide +kernel), im_X6_more, se_X6_more, ini_6, cd_X6_more, pd_X6_more⟩
set_option maxRecDepth 20000 in
theorem cd_X3_append : Cond.code yX3_append cX3_append 2 (some .int) ∈ tbl := tb_in 280 rfl rfl
theorem im_X3_append : Cond.instanceMethod yX3_append ∈ tbl := tb_in 278 (by decide +kernel) (by decide +kernel)
theorem se_X3_append : Cond.selects yX3_append.cls yX3_append yX3_append ∈ tbl := tb_in 279 (by decide +kernel) (by decide +kernel)
theorem pd_X3_append : yX3_append.cls ≠ "java/lang/invoke/MethodHandle" ∧ yX3_append.cls ≠ "java/lang/invoke/VarHandle" ∧ (parseMethodDescriptor yX3_append.desc).map (fun d => d.parameters.length) = some 1 := by decide +kernel
theorem lk_6_79 : LkV 6 79 yX3_append cX3_append 2 1 (some .int) := ⟨tb_in 277 (by decide +kernel) (by decide +kernel), im_X3_append, se_X3_append, ini_3, cd_X3_append, pd_X3_append⟩
theorem lk_6_82 : LkV 6 82 yX3_size cX3_size 1 0 (some .int) := ⟨tb_in 282 (by decide +kernel) (by decide +kernel), im_X3_size, se_X3_size, ini_3, cd_X3_size, pd_X3_size⟩
set_option maxRecDepth 20000 in
theorem cd_X6_less : Cond.code yX6_less cX6_less 2 (some .int) ∈ tbl := tb_in 286 rfl rfl
theorem im_X6_less : Cond.instanceMethod yX6_less ∈ tbl := tb_in 284 (by decide +kernel) (by decide +kernel)
theorem se_X6_less : Cond.selects yX6_less.cls yX6_less yX6_less ∈ tbl := tb_in 285 (by decide +kernel) (by decide +kernel)
theorem pd_X6_less : yX6_less.cls ≠ "java/lang/invoke/MethodHandle" ∧ yX6_less.cls ≠ "java/lang/invoke/VarHandle" ∧ (parseMethodDescriptor yX6_less.desc).map (fun d => d.parameters.length) = some 0 := by decide +kernel
theorem lk_10_23 : LkV 10 23 yX6_less cX6_less 2 0 (some .int) := ⟨tb_in 283 (by decide +kernel) (by decide +kernel), im_X6_less, se_X6_less, ini_6, cd_X6_less, pd_X6_less⟩
set_option maxRecDepth 20000 in
theorem cd_X3_drop : Cond.code yX3_drop cX3_drop 1 (some .int) ∈ tbl := tb_in 290 rfl rfl
theorem im_X3_drop : Cond.instanceMethod yX3_drop ∈ tbl := tb_in 288 (by decide +kernel) (by decide +kernel)
theorem se_X3_drop : Cond.selects yX3_drop.cls yX3_drop yX3_drop ∈ tbl := tb_in 289 (by decide +kernel) (by decide +kernel)
theorem pd_X3_drop : yX3_drop.cls ≠ "java/lang/invoke/MethodHandle" ∧ yX3_drop.cls ≠ "java/lang/invoke/VarHandle" ∧ (parseMethodDescriptor yX3_drop.desc).map (fun d => d.parameters.length) = some 0 := by decide +kernel
theorem lk_6_86 : LkV 6 86 yX3_drop cX3_drop 1 0 (some .int) := ⟨tb_in 287 (by decide +kernel) (by decide +kernel), im_X3_drop, se_X3_drop, ini_3, cd_X3_drop, pd_X3_drop⟩
set_option maxRecDepth 20000 in
theorem cd_X6_adds : Cond.code yX6_adds cX6_adds 4 (some .int) ∈ tbl := tb_in 295 rfl rfl
theorem im_X6_adds : Cond.instanceMethod yX6_adds ∈ tbl := tb_in 293 (by decide +kernel) (by decide +kernel)
theorem se_X6_adds : Cond.selects yX6_adds.cls yX6_adds yX6_adds ∈ tbl := tb_in 294 (by decide +kernel) (by decide +kernel)
theorem pd_X6_adds : yX6_adds.cls ≠ "java/lang/invoke/MethodHandle" ∧ yX6_adds.cls ≠ "java/lang/invoke/VarHandle" ∧ (parseMethodDescriptor yX6_adds.desc).map (fun d => d.parameters.length) = some 2 := by decide +kernel
theorem lk_10_28 : LkV 10 28 yX6_adds cX6_adds 4 2 (some .int) := ⟨tb_in 292 (by decide +kernel) (by decide +kernel), im_X6_adds, se_X6_adds, ini_6, cd_X6_adds, pd_X6_adds⟩
set_option maxRecDepth 20000 in
theorem cd_X3_addPlace : Cond.code yX3_addPlace cX3_addPlace 6 (some .int) ∈ tbl := tb_in 299 rfl rfl
theorem im_X3_addPlace : Cond.instanceMethod yX3_addPlace ∈ tbl := tb_in 297 (by decide +kernel) (by decide +kernel)
theorem se_X3_addPlace : Cond.selects yX3_addPlace.cls yX3_addPlace yX3_addPlace ∈ tbl := tb_in 298 (by decide +kernel) (by decide +kernel)
theorem pd_X3_addPlace : yX3_addPlace.cls ≠ "java/lang/invoke/MethodHandle" ∧ yX3_addPlace.cls ≠ "java/lang/invoke/VarHandle" ∧ (parseMethodDescriptor yX3_addPlace.desc).map (fun d => d.parameters.length) = some 2 := by decide +kernel
theorem lk_6_89 : LkV 6 89 yX3_addPlace cX3_addPlace 6 2 (some .int) := ⟨tb_in 296 (by decide +kernel) (by decide +kernel), im_X3_addPlace, se_X3_addPlace, ini_3, cd_X3_addPlace, pd_X3_addPlace⟩
set_option maxRecDepth 20000 in
theorem cd_X3_isNoShift : Cond.code yX3_isNoShift cX3_isNoShift 1 (some .boolean) ∈ tbl := tb_in 302 rfl rfl
theorem sa_X3_isNoShift : Cond.static yX3_isNoShift ∈ tbl := tb_in 301 (by decide +kernel) (by decide +kernel)
theorem pd_X3_isNoShift : yX3_isNoShift.cls ≠ "java/lang/invoke/MethodHandle" ∧ yX3_isNoShift.cls ≠ "java/lang/invoke/VarHandle" ∧ (parseMethodDescriptor yX3_isNoShift.desc).map (fun d => d.parameters.length) = some 1 := by decide +kernel
theorem lk_3_56 : LkS 3 56 yX3_isNoShift cX3_isNoShift 1 1 (some .boolean) := ⟨tb_in 300 (by decide +kernel) (by decide +kernel), sa_X3_isNoShift, ini_3, cd_X3_isNoShift, pd_X3_isNoShift⟩
set_option maxRecDepth 20000 in
theorem cd_X3_takeNext : Cond.code yX3_takeNext cX3_takeNext 3 (some .int) ∈ tbl := tb_in 306 rfl rfl
theorem im_X3_takeNext : Cond.instanceMethod yX3_takeNext ∈ tbl := tb_in 305 (by decide +kernel) (by decide +kernel)
theorem se_X3_takeNext : Cond.selects yX3_takeNext.cls yX3_takeNext yX3_takeNext ∈ tbl := tb_in 3 (by decide +kernel) (by decide +kernel)
theorem pd_X3_takeNext : yX3_takeNext.cls ≠ "java/lang/invoke/MethodHandle" ∧ yX3_takeNext.cls ≠ "java/lang/invoke/VarHandle" ∧ (parseMethodDescriptor yX3_takeNext.desc).map (fun d => d.parameters.length) = some 1 := by decide +kernel
theorem lk_3_59 : LkV 3 59 yX3_takeNext cX3_takeNext 3 1 (some .int) := ⟨tb_in 303 (by decide +kernel) (by decide +kernel), im_X3_takeNext, se_X3_takeNext, ini_3, cd_X3_takeNext, pd_X3_takeNext⟩
set_option maxRecDepth 20000 in
theorem cd_X6_moves : Cond.code yX6_moves cX6_moves 3 (some .int) ∈ tbl := tb_in 312 rfl rfl
theorem im_X6_moves : Cond.instanceMethod yX6_moves ∈ tbl := tb_in 310 (by decide +kernel) (by decide +kernel)
theorem se_X6_moves : Cond.selects yX6_moves.cls yX6_moves yX6_moves ∈ tbl := tb_in 311 (by decide +kernel) (by decide +kernel)
theorem pd_X6_moves : yX6_moves.cls ≠ "java/lang/invoke/MethodHandle" ∧ yX6_moves.cls ≠ "java/lang/invoke/VarHandle" ∧ (parseMethodDescriptor yX6_moves.desc).map (fun d => d.parameters.length) = some 1 := by decide +kernel
theorem lk_10_32 : LkV 10 32 yX6_moves cX6_moves 3 1 (some .int) := ⟨tb_in 309 (by decide +kernel) (by decide +kernel), im_X6_moves, se_X6_moves, ini_6, cd_X6_moves, pd_X6_moves⟩
set_option maxRecDepth 20000 in
theorem cd_X3_shift : Cond.code yX3_shift cX3_shift 3 (some .int) ∈ tbl := tb_in 316 rfl rfl
theorem im_X3_shift : Cond.instanceMethod yX3_shift ∈ tbl := tb_in 314 (by decide +kernel) (by decide +kernel)
theorem se_X3_shift : Cond.selects yX3_shift.cls yX3_shift yX3_shift ∈ tbl := tb_in 315 (by decide +kernel) (by decide +kernel)
theorem pd_X3_shift : yX3_shift.cls ≠ "java/lang/invoke/MethodHandle" ∧ yX3_shift.cls ≠ "java/lang/invoke/VarHandle" ∧ (parseMethodDescriptor yX3_shift.desc).map (fun d => d.parameters.length) = some 1 := by decide +kernel
theorem lk_6_92 : LkV 6 92 yX3_shift cX3_shift 3 1 (some .int) := ⟨tb_in 313 (by decide +kernel) (by decide +kernel), im_X3_shift, se_X3_shift, ini_3, cd_X3_shift, pd_X3_shift⟩
set_option maxRecDepth 20000 in
theorem cd_X1_begin : Cond.code yX1_begin cX1_begin 1 none ∈ tbl := tb_in 320 rfl rfl
theorem im_X1_begin : Cond.instanceMethod yX1_begin ∈ tbl := tb_in 318 (by decide +kernel) (by decide +kernel)
theorem se_X1_begin : Cond.selects yX1_begin.cls yX1_begin yX1_begin ∈ tbl := tb_in 319 (by decide +kernel) (by decide +kernel)
theorem pd_X1_begin : yX1_begin.cls ≠ "java/lang/invoke/MethodHandle" ∧ yX1_begin.cls ≠ "java/lang/invoke/VarHandle" ∧ (parseMethodDescriptor yX1_begin.desc).map (fun d => d.parameters.length) = some 0 := by decide +kernel
theorem lk_3_62 : LkV 3 62 yX1_begin cX1_begin 1 0 none := ⟨tb_in 317 (by decide +kernel) (by decide +kernel), im_X1_begin, se_X1_begin, ini_1, cd_X1_begin, pd_X1_begin⟩
set_option maxRecDepth 20000 in
theorem cd_X3_mean : Cond.code yX3_mean cX3_mean 6 (some .long) ∈ tbl := tb_in 324 rfl rfl
theorem im_X3_mean : Cond.instanceMethod yX3_mean ∈ tbl := tb_in 322 (by decide +kernel) (by decide +kernel)
theorem se_X3_mean : Cond.selects yX3_mean.cls yX3_mean yX3_mean ∈ tbl := tb_in 323 (by decide +kernel) (by decide +kernel)
theorem pd_X3_mean : yX3_mean.cls ≠ "java/lang/invoke/MethodHandle" ∧ yX3_mean.cls ≠ "java/lang/invoke/VarHandle" ∧ (parseMethodDescriptor yX3_mean.desc).map (fun d => d.parameters.length) = some 2 := by decide +kernel
theorem lk_3_65 : LkV 3 65 yX3_mean cX3_mean 6 2 (some .long) := ⟨tb_in 321 (by decide +kernel) (by decide +kernel), im_X3_mean, se_X3_mean, ini_3, cd_X3_mean, pd_X3_mean⟩
set_option maxRecDepth 20000 in
theorem cd_X1_degree : Cond.code yX1_degree cX1_degree 1 (some .int) ∈ tbl := tb_in 328 rfl rfl
theorem im_X1_degree : Cond.instanceMethod yX1_degree ∈ tbl := tb_in 326 (by decide +kernel) (by decide +kernel)
theorem se_X1_degree : Cond.selects yX1_degree.cls yX1_degree yX1_degree ∈ tbl := tb_in 327 (by decide +kernel) (by decide +kernel)
theorem pd_X1_degree : yX1_degree.cls ≠ "java/lang/invoke/MethodHandle" ∧ yX1_degree.cls ≠ "java/lang/invoke/VarHandle" ∧ (parseMethodDescriptor yX1_degree.desc).map (fun d => d.parameters.length) = some 0 := by decide +kernel
theorem lk_3_30 : LkV 3 30 yX1_degree cX1_degree 1 0 (some .int) := ⟨tb_in 325 (by decide +kernel) (by decide +kernel), im_X1_degree, se_X1_degree, ini_1, cd_X1_degree, pd_X1_degree⟩
set_option maxRecDepth 20000 in
theorem cd_X1_number : Cond.code yX1_number cX1_number 2 (some .long) ∈ tbl := tb_in 332 rfl rfl
theorem im_X1_number : Cond.instanceMethod yX1_number ∈ tbl := tb_in 330 (by decide +kernel) (by decide +kernel)
theorem se_X1_number : Cond.selects yX1_number.cls yX1_number yX1_number ∈ tbl := tb_in 331 (by decide +kernel) (by decide +kernel)
theorem pd_X1_number : yX1_number.cls ≠ "java/lang/invoke/MethodHandle" ∧ yX1_number.cls ≠ "java/lang/invoke/VarHandle" ∧ (parseMethodDescriptor yX1_number.desc).map (fun d => d.parameters.length) = some 1 := by decide +kernel
theorem lk_3_34 : LkV 3 34 yX1_number cX1_number 2 1 (some .long) := ⟨tb_in 329 (by decide +kernel) (by decide +kernel), im_X1_number, se_X1_number, ini_1, cd_X1_number, pd_X1_number⟩
set_option maxRecDepth 20000 in
theorem cd_X1_times : Cond.code yX1_times cX1_times 3 none ∈ tbl := tb_in 336 rfl rfl
theorem im_X1_times : Cond.instanceMethod yX1_times ∈ tbl := tb_in 334 (by decide +kernel) (by decide +kernel)
theorem se_X1_times : Cond.selects yX1_times.cls yX1_times yX1_times ∈ tbl := tb_in 335 (by decide +kernel) (by decide +kernel)
theorem pd_X1_times : yX1_times.cls ≠ "java/lang/invoke/MethodHandle" ∧ yX1_times.cls ≠ "java/lang/invoke/VarHandle" ∧ (parseMethodDescriptor yX1_times.desc).map (fun d => d.parameters.length) = some 1 := by decide +kernel
theorem lk_3_69 : LkV 3 69 yX1_times cX1_times 3 1 none := ⟨tb_in 333 (by decide +kernel) (by decide +kernel), im_X1_times, se_X1_times, ini_1, cd_X1_times, pd_X1_times⟩
theorem lk_1_19 : LkV 1 19 yX1_number cX1_number 2 1 (some .long) := ⟨tb_in 337 (by decide +kernel) (by decide +kernel), im_X1_number, se_X1_number, ini_1, cd_X1_number, pd_X1_number⟩
set_option maxRecDepth 20000 in
theorem cd_X6_stretches : Cond.code yX6_stretches cX6_stretches 3 (some .int) ∈ tbl := tb_in 341 rfl rfl
theorem im_X6_stretches : Cond.instanceMethod yX6_stretches ∈ tbl := tb_in 339 (by decide +kernel) (by decide +kernel)
theorem se_X6_stretches : Cond.selects yX6_stretches.cls yX6_stretches yX6_stretches ∈ tbl := tb_in 340 (by decide +kernel) (by decide +kernel)
theorem pd_X6_stretches : yX6_stretches.cls ≠ "java/lang/invoke/MethodHandle" ∧ yX6_stretches.cls ≠ "java/lang/invoke/VarHandle" ∧ (parseMethodDescriptor yX6_stretches.desc).map (fun d => d.parameters.length) = some 1 := by decide +kernel
theorem lk_10_36 : LkV 10 36 yX6_stretches cX6_stretches 3 1 (some .int) := ⟨tb_in 338 (by decide +kernel) (by decide +kernel), im_X6_stretches, se_X6_stretches, ini_6, cd_X6_stretches, pd_X6_stretches⟩
set_option maxRecDepth 20000 in
theorem cd_X3_scale : Cond.code yX3_scale cX3_scale 5 (some .int) ∈ tbl := tb_in 345 rfl rfl
theorem im_X3_scale : Cond.instanceMethod yX3_scale ∈ tbl := tb_in 343 (by decide +kernel) (by decide +kernel)
theorem se_X3_scale : Cond.selects yX3_scale.cls yX3_scale yX3_scale ∈ tbl := tb_in 344 (by decide +kernel) (by decide +kernel)
theorem pd_X3_scale : yX3_scale.cls ≠ "java/lang/invoke/MethodHandle" ∧ yX3_scale.cls ≠ "java/lang/invoke/VarHandle" ∧ (parseMethodDescriptor yX3_scale.desc).map (fun d => d.parameters.length) = some 1 := by decide +kernel
theorem lk_6_95 : LkV 6 95 yX3_scale cX3_scale 5 1 (some .int) := ⟨tb_in 342 (by decide +kernel) (by decide +kernel), im_X3_scale, se_X3_scale, ini_3, cd_X3_scale, pd_X3_scale⟩
set_option maxRecDepth 20000 in
theorem cd_X6_weighs : Cond.code yX6_weighs cX6_weighs 3 (some .int) ∈ tbl := tb_in 349 rfl rfl
theorem im_X6_weighs : Cond.instanceMethod yX6_weighs ∈ tbl := tb_in 347 (by decide +kernel) (by decide +kernel)
theorem se_X6_weighs : Cond.selects yX6_weighs.cls yX6_weighs yX6_weighs ∈ tbl := tb_in 348 (by decide +kernel) (by decide +kernel)
theorem pd_X6_weighs : yX6_weighs.cls ≠ "java/lang/invoke/MethodHandle" ∧ yX6_weighs.cls ≠ "java/lang/invoke/VarHandle" ∧ (parseMethodDescriptor yX6_weighs.desc).map (fun d => d.parameters.length) = some 1 := by decide +kernel
theorem lk_10_40 : LkV 10 40 yX6_weighs cX6_weighs 3 1 (some .int) := ⟨tb_in 346 (by decide +kernel) (by decide +kernel), im_X6_weighs, se_X6_weighs, ini_6, cd_X6_weighs, pd_X6_weighs⟩
set_option maxRecDepth 20000 in
theorem cd_X3_reweigh : Cond.code yX3_reweigh cX3_reweigh 3 (some .int) ∈ tbl := tb_in 353 rfl rfl
theorem im_X3_reweigh : Cond.instanceMethod yX3_reweigh ∈ tbl := tb_in 351 (by decide +kernel) (by decide +kernel)
theorem se_X3_reweigh : Cond.selects yX3_reweigh.cls yX3_reweigh yX3_reweigh ∈ tbl := tb_in 352 (by decide +kernel) (by decide +kernel)
theorem pd_X3_reweigh : yX3_reweigh.cls ≠ "java/lang/invoke/MethodHandle" ∧ yX3_reweigh.cls ≠ "java/lang/invoke/VarHandle" ∧ (parseMethodDescriptor yX3_reweigh.desc).map (fun d => d.parameters.length) = some 1 := by decide +kernel
theorem lk_6_98 : LkV 6 98 yX3_reweigh cX3_reweigh 3 1 (some .int) := ⟨tb_in 350 (by decide +kernel) (by decide +kernel), im_X3_reweigh, se_X3_reweigh, ini_3, cd_X3_reweigh, pd_X3_reweigh⟩
set_option maxRecDepth 20000 in
theorem cd_X6_of : Cond.code yX6_of cX6_of 2 (some .int) ∈ tbl := tb_in 357 rfl rfl
theorem im_X6_of : Cond.instanceMethod yX6_of ∈ tbl := tb_in 355 (by decide +kernel) (by decide +kernel)
theorem se_X6_of : Cond.selects yX6_of.cls yX6_of yX6_of ∈ tbl := tb_in 356 (by decide +kernel) (by decide +kernel)
theorem pd_X6_of : yX6_of.cls ≠ "java/lang/invoke/MethodHandle" ∧ yX6_of.cls ≠ "java/lang/invoke/VarHandle" ∧ (parseMethodDescriptor yX6_of.desc).map (fun d => d.parameters.length) = some 1 := by decide +kernel
theorem lk_10_44 : LkV 10 44 yX6_of cX6_of 2 1 (some .int) := ⟨tb_in 354 (by decide +kernel) (by decide +kernel), im_X6_of, se_X6_of, ini_6, cd_X6_of, pd_X6_of⟩
theorem lk_6_101 : LkS 6 101 yX6_isOutside cX6_isOutside 3 3 (some .boolean) := ⟨tb_in 358 (by decide +kernel) (by decide +kernel), sa_X6_isOutside, ini_6, cd_X6_isOutside, pd_X6_isOutside⟩
set_option maxRecDepth 20000 in
theorem cd_X6_determinant : Cond.code yX6_determinant cX6_determinant 3 (some .long) ∈ tbl := tb_in 362 rfl rfl
theorem im_X6_determinant : Cond.instanceMethod yX6_determinant ∈ tbl := tb_in 360 (by decide +kernel) (by decide +kernel)
theorem se_X6_determinant : Cond.selects yX6_determinant.cls yX6_determinant yX6_determinant ∈ tbl := tb_in 361 (by decide +kernel) (by decide +kernel)
theorem pd_X6_determinant : yX6_determinant.cls ≠ "java/lang/invoke/MethodHandle" ∧ yX6_determinant.cls ≠ "java/lang/invoke/VarHandle" ∧ (parseMethodDescriptor yX6_determinant.desc).map (fun d => d.parameters.length) = some 2 := by decide +kernel
theorem lk_10_48 : LkV 10 48 yX6_determinant cX6_determinant 3 2 (some .long) := ⟨tb_in 359 (by decide +kernel) (by decide +kernel), im_X6_determinant, se_X6_determinant, ini_6, cd_X6_determinant, pd_X6_determinant⟩
set_option maxRecDepth 20000 in
theorem cd_X3_hasTable : Cond.code yX3_hasTable cX3_hasTable 3 (some .boolean) ∈ tbl := tb_in 366 rfl rfl
theorem im_X3_hasTable : Cond.instanceMethod yX3_hasTable ∈ tbl := tb_in 364 (by decide +kernel) (by decide +kernel)
theorem se_X3_hasTable : Cond.selects yX3_hasTable.cls yX3_hasTable yX3_hasTable ∈ tbl := tb_in 365 (by decide +kernel) (by decide +kernel)
theorem pd_X3_hasTable : yX3_hasTable.cls ≠ "java/lang/invoke/MethodHandle" ∧ yX3_hasTable.cls ≠ "java/lang/invoke/VarHandle" ∧ (parseMethodDescriptor yX3_hasTable.desc).map (fun d => d.parameters.length) = some 2 := by decide +kernel
theorem lk_6_106 : LkV 6 106 yX3_hasTable cX3_hasTable 3 2 (some .boolean) := ⟨tb_in 363 (by decide +kernel) (by decide +kernel), im_X3_hasTable, se_X3_hasTable, ini_3, cd_X3_hasTable, pd_X3_hasTable⟩
set_option maxRecDepth 20000 in
theorem cd_X0_fill : Cond.code yX0_fill cX0_fill 4 none ∈ tbl := tb_in 370 rfl rfl
theorem im_X0_fill : Cond.instanceMethod yX0_fill ∈ tbl := tb_in 368 (by decide +kernel) (by decide +kernel)
theorem se_X0_fill : Cond.selects yX0_fill.cls yX0_fill yX0_fill ∈ tbl := tb_in 369 (by decide +kernel) (by decide +kernel)
theorem pd_X0_fill : yX0_fill.cls ≠ "java/lang/invoke/MethodHandle" ∧ yX0_fill.cls ≠ "java/lang/invoke/VarHandle" ∧ (parseMethodDescriptor yX0_fill.desc).map (fun d => d.parameters.length) = some 2 := by decide +kernel
theorem lk_6_111 : LkV 6 111 yX0_fill cX0_fill 4 2 none := ⟨tb_in 367 (by decide +kernel) (by decide +kernel), im_X0_fill, se_X0_fill, ini_0, cd_X0_fill, pd_X0_fill⟩
theorem lk_0_15 : LkV 0 15 yX3_size cX3_size 1 0 (some .int) := ⟨tb_in 371 (by decide +kernel) (by decide +kernel), im_X3_size, se_X3_size, ini_3, cd_X3_size, pd_X3_size⟩
set_option maxRecDepth 20000 in
theorem cd_X0_expand : Cond.code yX0_expand cX0_expand 12 (some .long) ∈ tbl := tb_in 375 rfl rfl
theorem im_X0_expand : Cond.instanceMethod yX0_expand ∈ tbl := tb_in 374 (by decide +kernel) (by decide +kernel)
theorem se_X0_expand : Cond.selects yX0_expand.cls yX0_expand yX0_expand ∈ tbl := tb_in 4 (by decide +kernel) (by decide +kernel)
theorem pd_X0_expand : yX0_expand.cls ≠ "java/lang/invoke/MethodHandle" ∧ yX0_expand.cls ≠ "java/lang/invoke/VarHandle" ∧ (parseMethodDescriptor yX0_expand.desc).map (fun d => d.parameters.length) = some 3 := by decide +kernel
theorem lk_0_25 : LkV 0 25 yX0_expand cX0_expand 12 3 (some .long) := ⟨tb_in 372 (by decide +kernel) (by decide +kernel), im_X0_expand, se_X0_expand, ini_0, cd_X0_expand, pd_X0_expand⟩
set_option maxRecDepth 20000 in
theorem cd_J6_bitCount_0f7a4 : Cond.code yJ6_bitCount_0f7a4 cJ6_bitCount_0f7a4 1 (some .int) ∈ tbl := tb_in 378 rfl rfl
theorem sa_J6_bitCount_0f7a4 : Cond.static yJ6_bitCount_0f7a4 ∈ tbl := tb_in 377 (by decide +kernel) (by decide +kernel)
theorem pd_J6_bitCount_0f7a4 : yJ6_bitCount_0f7a4.cls ≠ "java/lang/invoke/MethodHandle" ∧ yJ6_bitCount_0f7a4.cls ≠ "java/lang/invoke/VarHandle" ∧ (parseMethodDescriptor yJ6_bitCount_0f7a4.desc).map (fun d => d.parameters.length) = some 1 := by decide +kernel
theorem lk_0_29 : LkS 0 29 yJ6_bitCount_0f7a4 cJ6_bitCount_0f7a4 1 1 (some .int) := ⟨tb_in 376 (by decide +kernel) (by decide +kernel), sa_J6_bitCount_0f7a4, ini_8, cd_J6_bitCount_0f7a4, pd_J6_bitCount_0f7a4⟩
theorem lk_0_35 : LkV 0 35 yX3_at cX3_at 2 1 (some .int) := ⟨tb_in 382 (by decide +kernel) (by decide +kernel), im_X3_at, se_X3_at, ini_3, cd_X3_at, pd_X3_at⟩
set_option maxRecDepth 20000 in
theorem cd_X0_minor : Cond.code yX0_minor cX0_minor 2 (some .long) ∈ tbl := tb_in 386 rfl rfl
theorem im_X0_minor : Cond.instanceMethod yX0_minor ∈ tbl := tb_in 385 (by decide +kernel) (by decide +kernel)
theorem se_X0_minor : Cond.selects yX0_minor.cls yX0_minor yX0_minor ∈ tbl := tb_in 5 (by decide +kernel) (by decide +kernel)
theorem pd_X0_minor : yX0_minor.cls ≠ "java/lang/invoke/MethodHandle" ∧ yX0_minor.cls ≠ "java/lang/invoke/VarHandle" ∧ (parseMethodDescriptor yX0_minor.desc).map (fun d => d.parameters.length) = some 1 := by decide +kernel
theorem lk_0_38 : LkV 0 38 yX0_minor cX0_minor 2 1 (some .long) := ⟨tb_in 383 (by decide +kernel) (by decide +kernel), im_X0_minor, se_X0_minor, ini_0, cd_X0_minor, pd_X0_minor⟩
set_option maxRecDepth 20000 in
theorem cd_X0_det : Cond.code yX0_det cX0_det 2 (some .long) ∈ tbl := tb_in 390 rfl rfl
theorem im_X0_det : Cond.instanceMethod yX0_det ∈ tbl := tb_in 388 (by decide +kernel) (by decide +kernel)
theorem se_X0_det : Cond.selects yX0_det.cls yX0_det yX0_det ∈ tbl := tb_in 389 (by decide +kernel) (by decide +kernel)
theorem pd_X0_det : yX0_det.cls ≠ "java/lang/invoke/MethodHandle" ∧ yX0_det.cls ≠ "java/lang/invoke/VarHandle" ∧ (parseMethodDescriptor yX0_det.desc).map (fun d => d.parameters.length) = some 1 := by decide +kernel
theorem lk_6_115 : LkV 6 115 yX0_det cX0_det 2 1 (some .long) := ⟨tb_in 387 (by decide +kernel) (by decide +kernel), im_X0_det, se_X0_det, ini_0, cd_X0_det, pd_X0_det⟩
theorem lk_0_42 : LkN 0 42 yX6_isOutside cX6_isOutside 3 3 (some .boolean) := ⟨by decide +kernel, sa_X6_isOutside, ini_6, cd_X6_isOutside, pd_X6_isOutside⟩
set_option maxRecDepth 20000 in
theorem cd_X6_polynomial : Cond.code yX6_polynomial cX6_polynomial 4 (some .long) ∈ tbl := tb_in 395 rfl rfl
theorem im_X6_polynomial : Cond.instanceMethod yX6_polynomial ∈ tbl := tb_in 393 (by decide +kernel) (by decide +kernel)
theorem se_X6_polynomial : Cond.selects yX6_polynomial.cls yX6_polynomial yX6_polynomial ∈ tbl := tb_in 394 (by decide +kernel) (by decide +kernel)
theorem pd_X6_polynomial : yX6_polynomial.cls ≠ "java/lang/invoke/MethodHandle" ∧ yX6_polynomial.cls ≠ "java/lang/invoke/VarHandle" ∧ (parseMethodDescriptor yX6_polynomial.desc).map (fun d => d.parameters.length) = some 3 := by decide +kernel
theorem lk_10_53 : LkV 10 53 yX6_polynomial cX6_polynomial 4 3 (some .long) := ⟨tb_in 392 (by decide +kernel) (by decide +kernel), im_X6_polynomial, se_X6_polynomial, ini_6, cd_X6_polynomial, pd_X6_polynomial⟩
set_option maxRecDepth 20000 in
theorem cd_X6_findPolynomial : Cond.code yX6_findPolynomial cX6_findPolynomial 2 (some .boolean) ∈ tbl := tb_in 399 rfl rfl
theorem im_X6_findPolynomial : Cond.instanceMethod yX6_findPolynomial ∈ tbl := tb_in 398 (by decide +kernel) (by decide +kernel)
theorem se_X6_findPolynomial : Cond.selects yX6_findPolynomial.cls yX6_findPolynomial yX6_findPolynomial ∈ tbl := tb_in 6 (by decide +kernel) (by decide +kernel)
theorem pd_X6_findPolynomial : yX6_findPolynomial.cls ≠ "java/lang/invoke/MethodHandle" ∧ yX6_findPolynomial.cls ≠ "java/lang/invoke/VarHandle" ∧ (parseMethodDescriptor yX6_findPolynomial.desc).map (fun d => d.parameters.length) = some 1 := by decide +kernel
theorem lk_6_119 : LkV 6 119 yX6_findPolynomial cX6_findPolynomial 2 1 (some .boolean) := ⟨tb_in 396 (by decide +kernel) (by decide +kernel), im_X6_findPolynomial, se_X6_findPolynomial, ini_6, cd_X6_findPolynomial, pd_X6_findPolynomial⟩
set_option maxRecDepth 20000 in
theorem cd_X0_hasPolynomial : Cond.code yX0_hasPolynomial cX0_hasPolynomial 2 (some .boolean) ∈ tbl := tb_in 403 rfl rfl
theorem im_X0_hasPolynomial : Cond.instanceMethod yX0_hasPolynomial ∈ tbl := tb_in 401 (by decide +kernel) (by decide +kernel)
theorem se_X0_hasPolynomial : Cond.selects yX0_hasPolynomial.cls yX0_hasPolynomial yX0_hasPolynomial ∈ tbl := tb_in 402 (by decide +kernel) (by decide +kernel)
theorem pd_X0_hasPolynomial : yX0_hasPolynomial.cls ≠ "java/lang/invoke/MethodHandle" ∧ yX0_hasPolynomial.cls ≠ "java/lang/invoke/VarHandle" ∧ (parseMethodDescriptor yX0_hasPolynomial.desc).map (fun d => d.parameters.length) = some 1 := by decide +kernel
theorem lk_6_216 : LkV 6 216 yX0_hasPolynomial cX0_hasPolynomial 2 1 (some .boolean) := ⟨tb_in 400 (by decide +kernel) (by decide +kernel), im_X0_hasPolynomial, se_X0_hasPolynomial, ini_0, cd_X0_hasPolynomial, pd_X0_hasPolynomial⟩
theorem lk_0_46 : LkV 0 46 yX0_det cX0_det 2 1 (some .long) := ⟨tb_in 404 (by decide +kernel) (by decide +kernel), im_X0_det, se_X0_det, ini_0, cd_X0_det, pd_X0_det⟩
set_option maxRecDepth 20000 in
theorem cd_X0_coefficient : Cond.code yX0_coefficient cX0_coefficient 5 (some .long) ∈ tbl := tb_in 408 rfl rfl
theorem im_X0_coefficient : Cond.instanceMethod yX0_coefficient ∈ tbl := tb_in 406 (by decide +kernel) (by decide +kernel)
theorem se_X0_coefficient : Cond.selects yX0_coefficient.cls yX0_coefficient yX0_coefficient ∈ tbl := tb_in 407 (by decide +kernel) (by decide +kernel)
theorem pd_X0_coefficient : yX0_coefficient.cls ≠ "java/lang/invoke/MethodHandle" ∧ yX0_coefficient.cls ≠ "java/lang/invoke/VarHandle" ∧ (parseMethodDescriptor yX0_coefficient.desc).map (fun d => d.parameters.length) = some 2 := by decide +kernel
theorem lk_6_123 : LkV 6 123 yX0_coefficient cX0_coefficient 5 2 (some .long) := ⟨tb_in 405 (by decide +kernel) (by decide +kernel), im_X0_coefficient, se_X0_coefficient, ini_0, cd_X0_coefficient, pd_X0_coefficient⟩
set_option maxRecDepth 20000 in
theorem cd_X6_part : Cond.code yX6_part cX6_part 7 (some .long) ∈ tbl := tb_in 411 rfl rfl
theorem sa_X6_part : Cond.static yX6_part ∈ tbl := tb_in 410 (by decide +kernel) (by decide +kernel)
theorem pd_X6_part : yX6_part.cls ≠ "java/lang/invoke/MethodHandle" ∧ yX6_part.cls ≠ "java/lang/invoke/VarHandle" ∧ (parseMethodDescriptor yX6_part.desc).map (fun d => d.parameters.length) = some 3 := by decide +kernel
theorem lk_6_127 : LkS 6 127 yX6_part cX6_part 7 3 (some .long) := ⟨tb_in 409 (by decide +kernel) (by decide +kernel), sa_X6_part, ini_6, cd_X6_part, pd_X6_part⟩
set_option maxRecDepth 20000 in
theorem cd_J9_abs_067f4 : Cond.code yJ9_abs_067f4 cJ9_abs_067f4 2 (some .long) ∈ tbl := tb_in 414 rfl rfl
theorem sa_J9_abs_067f4 : Cond.static yJ9_abs_067f4 ∈ tbl := tb_in 413 (by decide +kernel) (by decide +kernel)
theorem pd_J9_abs_067f4 : yJ9_abs_067f4.cls ≠ "java/lang/invoke/MethodHandle" ∧ yJ9_abs_067f4.cls ≠ "java/lang/invoke/VarHandle" ∧ (parseMethodDescriptor yJ9_abs_067f4.desc).map (fun d => d.parameters.length) = some 1 := by decide +kernel
theorem lk_6_248 : LkS 6 248 yJ9_abs_067f4 cJ9_abs_067f4 2 1 (some .long) := ⟨tb_in 412 (by decide +kernel) (by decide +kernel), sa_J9_abs_067f4, ini_9, cd_J9_abs_067f4, pd_J9_abs_067f4⟩
set_option maxRecDepth 20000 in
theorem cd_X6_commonDivisor : Cond.code yX6_commonDivisor cX6_commonDivisor 11 (some .long) ∈ tbl := tb_in 417 rfl rfl
theorem sa_X6_commonDivisor : Cond.static yX6_commonDivisor ∈ tbl := tb_in 416 (by decide +kernel) (by decide +kernel)
theorem pd_X6_commonDivisor : yX6_commonDivisor.cls ≠ "java/lang/invoke/MethodHandle" ∧ yX6_commonDivisor.cls ≠ "java/lang/invoke/VarHandle" ∧ (parseMethodDescriptor yX6_commonDivisor.desc).map (fun d => d.parameters.length) = some 2 := by decide +kernel
theorem lk_6_254 : LkS 6 254 yX6_commonDivisor cX6_commonDivisor 11 2 (some .long) := ⟨tb_in 415 (by decide +kernel) (by decide +kernel), sa_X6_commonDivisor, ini_6, cd_X6_commonDivisor, pd_X6_commonDivisor⟩
set_option maxRecDepth 20000 in
theorem cd_X6_norm : Cond.code yX6_norm cX6_norm 3 (some .long) ∈ tbl := tb_in 421 rfl rfl
theorem im_X6_norm : Cond.instanceMethod yX6_norm ∈ tbl := tb_in 419 (by decide +kernel) (by decide +kernel)
theorem se_X6_norm : Cond.selects yX6_norm.cls yX6_norm yX6_norm ∈ tbl := tb_in 420 (by decide +kernel) (by decide +kernel)
theorem pd_X6_norm : yX6_norm.cls ≠ "java/lang/invoke/MethodHandle" ∧ yX6_norm.cls ≠ "java/lang/invoke/VarHandle" ∧ (parseMethodDescriptor yX6_norm.desc).map (fun d => d.parameters.length) = some 2 := by decide +kernel
theorem lk_10_58 : LkV 10 58 yX6_norm cX6_norm 3 2 (some .long) := ⟨tb_in 418 (by decide +kernel) (by decide +kernel), im_X6_norm, se_X6_norm, ini_6, cd_X6_norm, pd_X6_norm⟩
set_option maxRecDepth 20000 in
theorem cd_X6_rule : Cond.code yX6_rule cX6_rule 10 (some .long) ∈ tbl := tb_in 425 rfl rfl
theorem im_X6_rule : Cond.instanceMethod yX6_rule ∈ tbl := tb_in 423 (by decide +kernel) (by decide +kernel)
theorem se_X6_rule : Cond.selects yX6_rule.cls yX6_rule yX6_rule ∈ tbl := tb_in 424 (by decide +kernel) (by decide +kernel)
theorem pd_X6_rule : yX6_rule.cls ≠ "java/lang/invoke/MethodHandle" ∧ yX6_rule.cls ≠ "java/lang/invoke/VarHandle" ∧ (parseMethodDescriptor yX6_rule.desc).map (fun d => d.parameters.length) = some 3 := by decide +kernel
theorem lk_10_62 : LkV 10 62 yX6_rule cX6_rule 10 3 (some .long) := ⟨tb_in 422 (by decide +kernel) (by decide +kernel), im_X6_rule, se_X6_rule, ini_6, cd_X6_rule, pd_X6_rule⟩
set_option maxRecDepth 20000 in
theorem cd_X6_findRule : Cond.code yX6_findRule cX6_findRule 2 (some .boolean) ∈ tbl := tb_in 429 rfl rfl
theorem im_X6_findRule : Cond.instanceMethod yX6_findRule ∈ tbl := tb_in 428 (by decide +kernel) (by decide +kernel)
theorem se_X6_findRule : Cond.selects yX6_findRule.cls yX6_findRule yX6_findRule ∈ tbl := tb_in 7 (by decide +kernel) (by decide +kernel)
theorem pd_X6_findRule : yX6_findRule.cls ≠ "java/lang/invoke/MethodHandle" ∧ yX6_findRule.cls ≠ "java/lang/invoke/VarHandle" ∧ (parseMethodDescriptor yX6_findRule.desc).map (fun d => d.parameters.length) = some 1 := by decide +kernel
theorem lk_6_131 : LkV 6 131 yX6_findRule cX6_findRule 2 1 (some .boolean) := ⟨tb_in 426 (by decide +kernel) (by decide +kernel), im_X6_findRule, se_X6_findRule, ini_6, cd_X6_findRule, pd_X6_findRule⟩
set_option maxRecDepth 20000 in
theorem cd_X6_verdict : Cond.code yX6_verdict cX6_verdict 2 (some .int) ∈ tbl := tb_in 433 rfl rfl
theorem im_X6_verdict : Cond.instanceMethod yX6_verdict ∈ tbl := tb_in 431 (by decide +kernel) (by decide +kernel)
theorem se_X6_verdict : Cond.selects yX6_verdict.cls yX6_verdict yX6_verdict ∈ tbl := tb_in 432 (by decide +kernel) (by decide +kernel)
theorem pd_X6_verdict : yX6_verdict.cls ≠ "java/lang/invoke/MethodHandle" ∧ yX6_verdict.cls ≠ "java/lang/invoke/VarHandle" ∧ (parseMethodDescriptor yX6_verdict.desc).map (fun d => d.parameters.length) = some 1 := by decide +kernel
theorem lk_10_66 : LkV 10 66 yX6_verdict cX6_verdict 2 1 (some .int) := ⟨tb_in 430 (by decide +kernel) (by decide +kernel), im_X6_verdict, se_X6_verdict, ini_6, cd_X6_verdict, pd_X6_verdict⟩
set_option maxRecDepth 20000 in
theorem cd_X6_judge : Cond.code yX6_judge cX6_judge 3 none ∈ tbl := tb_in 437 rfl rfl
theorem im_X6_judge : Cond.instanceMethod yX6_judge ∈ tbl := tb_in 436 (by decide +kernel) (by decide +kernel)
theorem se_X6_judge : Cond.selects yX6_judge.cls yX6_judge yX6_judge ∈ tbl := tb_in 8 (by decide +kernel) (by decide +kernel)
theorem pd_X6_judge : yX6_judge.cls ≠ "java/lang/invoke/MethodHandle" ∧ yX6_judge.cls ≠ "java/lang/invoke/VarHandle" ∧ (parseMethodDescriptor yX6_judge.desc).map (fun d => d.parameters.length) = some 0 := by decide +kernel
theorem lk_6_134 : LkV 6 134 yX6_judge cX6_judge 3 0 none := ⟨tb_in 434 (by decide +kernel) (by decide +kernel), im_X6_judge, se_X6_judge, ini_6, cd_X6_judge, pd_X6_judge⟩
set_option maxRecDepth 20000 in
theorem cd_X6_find : Cond.code yX6_find cX6_find 5 none ∈ tbl := tb_in 442 rfl rfl
theorem im_X6_find : Cond.instanceMethod yX6_find ∈ tbl := tb_in 441 (by decide +kernel) (by decide +kernel)
theorem se_X6_find : Cond.selects yX6_find.cls yX6_find yX6_find ∈ tbl := tb_in 9 (by decide +kernel) (by decide +kernel)
theorem pd_X6_find : yX6_find.cls ≠ "java/lang/invoke/MethodHandle" ∧ yX6_find.cls ≠ "java/lang/invoke/VarHandle" ∧ (parseMethodDescriptor yX6_find.desc).map (fun d => d.parameters.length) = some 4 := by decide +kernel
theorem lk_6_236 : LkV 6 236 yX6_find cX6_find 5 4 none := ⟨tb_in 439 (by decide +kernel) (by decide +kernel), im_X6_find, se_X6_find, ini_6, cd_X6_find, pd_X6_find⟩
set_option maxRecDepth 20000 in
theorem cd_X6_findRest : Cond.code yX6_findRest cX6_findRest 3 (some .int) ∈ tbl := tb_in 446 rfl rfl
theorem im_X6_findRest : Cond.instanceMethod yX6_findRest ∈ tbl := tb_in 445 (by decide +kernel) (by decide +kernel)
theorem se_X6_findRest : Cond.selects yX6_findRest.cls yX6_findRest yX6_findRest ∈ tbl := tb_in 10 (by decide +kernel) (by decide +kernel)
theorem pd_X6_findRest : yX6_findRest.cls ≠ "java/lang/invoke/MethodHandle" ∧ yX6_findRest.cls ≠ "java/lang/invoke/VarHandle" ∧ (parseMethodDescriptor yX6_findRest.desc).map (fun d => d.parameters.length) = some 1 := by decide +kernel
theorem lk_6_240 : LkV 6 240 yX6_findRest cX6_findRest 3 1 (some .int) := ⟨tb_in 443 (by decide +kernel) (by decide +kernel), im_X6_findRest, se_X6_findRest, ini_6, cd_X6_findRest, pd_X6_findRest⟩
set_option maxRecDepth 20000 in
theorem cd_X0_meanTimesPower : Cond.code yX0_meanTimesPower cX0_meanTimesPower 7 (some .long) ∈ tbl := tb_in 450 rfl rfl
theorem im_X0_meanTimesPower : Cond.instanceMethod yX0_meanTimesPower ∈ tbl := tb_in 448 (by decide +kernel) (by decide +kernel)
theorem se_X0_meanTimesPower : Cond.selects yX0_meanTimesPower.cls yX0_meanTimesPower yX0_meanTimesPower ∈ tbl := tb_in 449 (by decide +kernel) (by decide +kernel)
theorem pd_X0_meanTimesPower : yX0_meanTimesPower.cls ≠ "java/lang/invoke/MethodHandle" ∧ yX0_meanTimesPower.cls ≠ "java/lang/invoke/VarHandle" ∧ (parseMethodDescriptor yX0_meanTimesPower.desc).map (fun d => d.parameters.length) = some 3 := by decide +kernel
theorem lk_6_243 : LkV 6 243 yX0_meanTimesPower cX0_meanTimesPower 7 3 (some .long) := ⟨tb_in 447 (by decide +kernel) (by decide +kernel), im_X0_meanTimesPower, se_X0_meanTimesPower, ini_0, cd_X0_meanTimesPower, pd_X0_meanTimesPower⟩
theorem lk_0_49 : LkV 0 49 yX0_coefficient cX0_coefficient 5 2 (some .long) := ⟨tb_in 451 (by decide +kernel) (by decide +kernel), im_X0_coefficient, se_X0_coefficient, ini_0, cd_X0_coefficient, pd_X0_coefficient⟩
set_option maxRecDepth 20000 in
theorem cd_X6_value : Cond.code yX6_value cX6_value 5 (some .long) ∈ tbl := tb_in 455 rfl rfl
theorem im_X6_value : Cond.instanceMethod yX6_value ∈ tbl := tb_in 453 (by decide +kernel) (by decide +kernel)
theorem se_X6_value : Cond.selects yX6_value.cls yX6_value yX6_value ∈ tbl := tb_in 454 (by decide +kernel) (by decide +kernel)
theorem pd_X6_value : yX6_value.cls ≠ "java/lang/invoke/MethodHandle" ∧ yX6_value.cls ≠ "java/lang/invoke/VarHandle" ∧ (parseMethodDescriptor yX6_value.desc).map (fun d => d.parameters.length) = some 4 := by decide +kernel
theorem lk_10_70 : LkV 10 70 yX6_value cX6_value 5 4 (some .long) := ⟨tb_in 452 (by decide +kernel) (by decide +kernel), im_X6_value, se_X6_value, ini_6, cd_X6_value, pd_X6_value⟩
set_option maxRecDepth 20000 in
theorem cd_X6_isNoPoint : Cond.code yX6_isNoPoint cX6_isNoPoint 2 (some .boolean) ∈ tbl := tb_in 458 rfl rfl
theorem sa_X6_isNoPoint : Cond.static yX6_isNoPoint ∈ tbl := tb_in 457 (by decide +kernel) (by decide +kernel)
theorem pd_X6_isNoPoint : yX6_isNoPoint.cls ≠ "java/lang/invoke/MethodHandle" ∧ yX6_isNoPoint.cls ≠ "java/lang/invoke/VarHandle" ∧ (parseMethodDescriptor yX6_isNoPoint.desc).map (fun d => d.parameters.length) = some 2 := by decide +kernel
theorem lk_6_137 : LkS 6 137 yX6_isNoPoint cX6_isNoPoint 2 2 (some .boolean) := ⟨tb_in 456 (by decide +kernel) (by decide +kernel), sa_X6_isNoPoint, ini_6, cd_X6_isNoPoint, pd_X6_isNoPoint⟩
set_option maxRecDepth 20000 in
theorem cd_X0_evaluate : Cond.code yX0_evaluate cX0_evaluate 9 (some .long) ∈ tbl := tb_in 462 rfl rfl
theorem im_X0_evaluate : Cond.instanceMethod yX0_evaluate ∈ tbl := tb_in 460 (by decide +kernel) (by decide +kernel)
theorem se_X0_evaluate : Cond.selects yX0_evaluate.cls yX0_evaluate yX0_evaluate ∈ tbl := tb_in 461 (by decide +kernel) (by decide +kernel)
theorem pd_X0_evaluate : yX0_evaluate.cls ≠ "java/lang/invoke/MethodHandle" ∧ yX0_evaluate.cls ≠ "java/lang/invoke/VarHandle" ∧ (parseMethodDescriptor yX0_evaluate.desc).map (fun d => d.parameters.length) = some 3 := by decide +kernel
theorem lk_6_140 : LkV 6 140 yX0_evaluate cX0_evaluate 9 3 (some .long) := ⟨tb_in 459 (by decide +kernel) (by decide +kernel), im_X0_evaluate, se_X0_evaluate, ini_0, cd_X0_evaluate, pd_X0_evaluate⟩
set_option maxRecDepth 20000 in
theorem cd_X6_power : Cond.code yX6_power cX6_power 6 (some .long) ∈ tbl := tb_in 465 rfl rfl
theorem sa_X6_power : Cond.static yX6_power ∈ tbl := tb_in 464 (by decide +kernel) (by decide +kernel)
theorem pd_X6_power : yX6_power.cls ≠ "java/lang/invoke/MethodHandle" ∧ yX6_power.cls ≠ "java/lang/invoke/VarHandle" ∧ (parseMethodDescriptor yX6_power.desc).map (fun d => d.parameters.length) = some 2 := by decide +kernel
theorem lk_6_144 : LkS 6 144 yX6_power cX6_power 6 2 (some .long) := ⟨tb_in 463 (by decide +kernel) (by decide +kernel), sa_X6_power, ini_6, cd_X6_power, pd_X6_power⟩
set_option maxRecDepth 20000 in
theorem cd_X6_under : Cond.code yX6_under cX6_under 4 (some .int) ∈ tbl := tb_in 469 rfl rfl
theorem im_X6_under : Cond.instanceMethod yX6_under ∈ tbl := tb_in 467 (by decide +kernel) (by decide +kernel)
theorem se_X6_under : Cond.selects yX6_under.cls yX6_under yX6_under ∈ tbl := tb_in 468 (by decide +kernel) (by decide +kernel)
theorem pd_X6_under : yX6_under.cls ≠ "java/lang/invoke/MethodHandle" ∧ yX6_under.cls ≠ "java/lang/invoke/VarHandle" ∧ (parseMethodDescriptor yX6_under.desc).map (fun d => d.parameters.length) = some 3 := by decide +kernel
theorem lk_10_75 : LkV 10 75 yX6_under cX6_under 4 3 (some .int) := ⟨tb_in 466 (by decide +kernel) (by decide +kernel), im_X6_under, se_X6_under, ini_6, cd_X6_under, pd_X6_under⟩
set_option maxRecDepth 20000 in
theorem cd_X6_findZeros : Cond.code yX6_findZeros cX6_findZeros 3 (some .boolean) ∈ tbl := tb_in 473 rfl rfl
theorem im_X6_findZeros : Cond.instanceMethod yX6_findZeros ∈ tbl := tb_in 472 (by decide +kernel) (by decide +kernel)
theorem se_X6_findZeros : Cond.selects yX6_findZeros.cls yX6_findZeros yX6_findZeros ∈ tbl := tb_in 11 (by decide +kernel) (by decide +kernel)
theorem pd_X6_findZeros : yX6_findZeros.cls ≠ "java/lang/invoke/MethodHandle" ∧ yX6_findZeros.cls ≠ "java/lang/invoke/VarHandle" ∧ (parseMethodDescriptor yX6_findZeros.desc).map (fun d => d.parameters.length) = some 1 := by decide +kernel
theorem lk_6_148 : LkV 6 148 yX6_findZeros cX6_findZeros 3 1 (some .boolean) := ⟨tb_in 470 (by decide +kernel) (by decide +kernel), im_X6_findZeros, se_X6_findZeros, ini_6, cd_X6_findZeros, pd_X6_findZeros⟩
set_option maxRecDepth 20000 in
theorem cd_X0_zerosBelow : Cond.code yX0_zerosBelow cX0_zerosBelow 8 (some .int) ∈ tbl := tb_in 477 rfl rfl
theorem im_X0_zerosBelow : Cond.instanceMethod yX0_zerosBelow ∈ tbl := tb_in 475 (by decide +kernel) (by decide +kernel)
theorem se_X0_zerosBelow : Cond.selects yX0_zerosBelow.cls yX0_zerosBelow yX0_zerosBelow ∈ tbl := tb_in 476 (by decide +kernel) (by decide +kernel)
theorem pd_X0_zerosBelow : yX0_zerosBelow.cls ≠ "java/lang/invoke/MethodHandle" ∧ yX0_zerosBelow.cls ≠ "java/lang/invoke/VarHandle" ∧ (parseMethodDescriptor yX0_zerosBelow.desc).map (fun d => d.parameters.length) = some 3 := by decide +kernel
theorem lk_6_151 : LkV 6 151 yX0_zerosBelow cX0_zerosBelow 8 3 (some .int) := ⟨tb_in 474 (by decide +kernel) (by decide +kernel), im_X0_zerosBelow, se_X0_zerosBelow, ini_0, cd_X0_zerosBelow, pd_X0_zerosBelow⟩
theorem lk_0_57 : LkV 0 57 yX0_evaluate cX0_evaluate 9 3 (some .long) := ⟨tb_in 478 (by decide +kernel) (by decide +kernel), im_X0_evaluate, se_X0_evaluate, ini_0, cd_X0_evaluate, pd_X0_evaluate⟩
set_option maxRecDepth 20000 in
theorem cd_X6_signOf : Cond.code yX6_signOf cX6_signOf 2 (some .int) ∈ tbl := tb_in 481 rfl rfl
theorem sa_X6_signOf : Cond.static yX6_signOf ∈ tbl := tb_in 480 (by decide +kernel) (by decide +kernel)
theorem pd_X6_signOf : yX6_signOf.cls ≠ "java/lang/invoke/MethodHandle" ∧ yX6_signOf.cls ≠ "java/lang/invoke/VarHandle" ∧ (parseMethodDescriptor yX6_signOf.desc).map (fun d => d.parameters.length) = some 1 := by decide +kernel
theorem lk_0_61 : LkN 0 61 yX6_signOf cX6_signOf 2 1 (some .int) := ⟨by decide +kernel, sa_X6_signOf, ini_6, cd_X6_signOf, pd_X6_signOf⟩
set_option maxRecDepth 20000 in
theorem cd_X6_zero : Cond.code yX6_zero cX6_zero 4 (some .int) ∈ tbl := tb_in 485 rfl rfl
theorem im_X6_zero : Cond.instanceMethod yX6_zero ∈ tbl := tb_in 483 (by decide +kernel) (by decide +kernel)
theorem se_X6_zero : Cond.selects yX6_zero.cls yX6_zero yX6_zero ∈ tbl := tb_in 484 (by decide +kernel) (by decide +kernel)
theorem pd_X6_zero : yX6_zero.cls ≠ "java/lang/invoke/MethodHandle" ∧ yX6_zero.cls ≠ "java/lang/invoke/VarHandle" ∧ (parseMethodDescriptor yX6_zero.desc).map (fun d => d.parameters.length) = some 3 := by decide +kernel
theorem lk_10_80 : LkV 10 80 yX6_zero cX6_zero 4 3 (some .int) := ⟨tb_in 482 (by decide +kernel) (by decide +kernel), im_X6_zero, se_X6_zero, ini_6, cd_X6_zero, pd_X6_zero⟩
set_option maxRecDepth 20000 in
theorem cd_X6_enclose : Cond.code yX6_enclose cX6_enclose 8 (some .int) ∈ tbl := tb_in 489 rfl rfl
theorem im_X6_enclose : Cond.instanceMethod yX6_enclose ∈ tbl := tb_in 488 (by decide +kernel) (by decide +kernel)
theorem se_X6_enclose : Cond.selects yX6_enclose.cls yX6_enclose yX6_enclose ∈ tbl := tb_in 12 (by decide +kernel) (by decide +kernel)
theorem pd_X6_enclose : yX6_enclose.cls ≠ "java/lang/invoke/MethodHandle" ∧ yX6_enclose.cls ≠ "java/lang/invoke/VarHandle" ∧ (parseMethodDescriptor yX6_enclose.desc).map (fun d => d.parameters.length) = some 3 := by decide +kernel
theorem lk_6_155 : LkV 6 155 yX6_enclose cX6_enclose 8 3 (some .int) := ⟨tb_in 486 (by decide +kernel) (by decide +kernel), im_X6_enclose, se_X6_enclose, ini_6, cd_X6_enclose, pd_X6_enclose⟩
set_option maxRecDepth 20000 in
theorem cd_X6_weight : Cond.code yX6_weight cX6_weight 4 (some .long) ∈ tbl := tb_in 493 rfl rfl
theorem im_X6_weight : Cond.instanceMethod yX6_weight ∈ tbl := tb_in 491 (by decide +kernel) (by decide +kernel)
theorem se_X6_weight : Cond.selects yX6_weight.cls yX6_weight yX6_weight ∈ tbl := tb_in 492 (by decide +kernel) (by decide +kernel)
theorem pd_X6_weight : yX6_weight.cls ≠ "java/lang/invoke/MethodHandle" ∧ yX6_weight.cls ≠ "java/lang/invoke/VarHandle" ∧ (parseMethodDescriptor yX6_weight.desc).map (fun d => d.parameters.length) = some 3 := by decide +kernel
theorem lk_10_84 : LkV 10 84 yX6_weight cX6_weight 4 3 (some .long) := ⟨tb_in 490 (by decide +kernel) (by decide +kernel), im_X6_weight, se_X6_weight, ini_6, cd_X6_weight, pd_X6_weight⟩
set_option maxRecDepth 20000 in
theorem cd_X6_isNoSet : Cond.code yX6_isNoSet cX6_isNoSet 1 (some .boolean) ∈ tbl := tb_in 496 rfl rfl
theorem sa_X6_isNoSet : Cond.static yX6_isNoSet ∈ tbl := tb_in 495 (by decide +kernel) (by decide +kernel)
theorem pd_X6_isNoSet : yX6_isNoSet.cls ≠ "java/lang/invoke/MethodHandle" ∧ yX6_isNoSet.cls ≠ "java/lang/invoke/VarHandle" ∧ (parseMethodDescriptor yX6_isNoSet.desc).map (fun d => d.parameters.length) = some 1 := by decide +kernel
theorem lk_6_158 : LkS 6 158 yX6_isNoSet cX6_isNoSet 1 1 (some .boolean) := ⟨tb_in 494 (by decide +kernel) (by decide +kernel), sa_X6_isNoSet, ini_6, cd_X6_isNoSet, pd_X6_isNoSet⟩
theorem lk_6_164 : LkS 6 164 yJ6_bitCount_0f7a4 cJ6_bitCount_0f7a4 1 1 (some .int) := ⟨tb_in 498 (by decide +kernel) (by decide +kernel), sa_J6_bitCount_0f7a4, ini_8, cd_J6_bitCount_0f7a4, pd_J6_bitCount_0f7a4⟩
set_option maxRecDepth 20000 in
theorem cd_X6_bitOf : Cond.code yX6_bitOf cX6_bitOf 1 (some .int) ∈ tbl := tb_in 501 rfl rfl
theorem sa_X6_bitOf : Cond.static yX6_bitOf ∈ tbl := tb_in 500 (by decide +kernel) (by decide +kernel)
theorem pd_X6_bitOf : yX6_bitOf.cls ≠ "java/lang/invoke/MethodHandle" ∧ yX6_bitOf.cls ≠ "java/lang/invoke/VarHandle" ∧ (parseMethodDescriptor yX6_bitOf.desc).map (fun d => d.parameters.length) = some 1 := by decide +kernel
theorem lk_6_161 : LkS 6 161 yX6_bitOf cX6_bitOf 1 1 (some .int) := ⟨tb_in 499 (by decide +kernel) (by decide +kernel), sa_X6_bitOf, ini_6, cd_X6_bitOf, pd_X6_bitOf⟩
set_option maxRecDepth 20000 in
theorem cd_X1_vanishAt : Cond.code yX1_vanishAt cX1_vanishAt 3 none ∈ tbl := tb_in 505 rfl rfl
theorem im_X1_vanishAt : Cond.instanceMethod yX1_vanishAt ∈ tbl := tb_in 503 (by decide +kernel) (by decide +kernel)
theorem se_X1_vanishAt : Cond.selects yX1_vanishAt.cls yX1_vanishAt yX1_vanishAt ∈ tbl := tb_in 504 (by decide +kernel) (by decide +kernel)
theorem pd_X1_vanishAt : yX1_vanishAt.cls ≠ "java/lang/invoke/MethodHandle" ∧ yX1_vanishAt.cls ≠ "java/lang/invoke/VarHandle" ∧ (parseMethodDescriptor yX1_vanishAt.desc).map (fun d => d.parameters.length) = some 1 := by decide +kernel
theorem lk_6_169 : LkV 6 169 yX1_vanishAt cX1_vanishAt 3 1 none := ⟨tb_in 502 (by decide +kernel) (by decide +kernel), im_X1_vanishAt, se_X1_vanishAt, ini_1, cd_X1_vanishAt, pd_X1_vanishAt⟩
theorem lk_1_23 : LkV 1 23 yX1_begin cX1_begin 1 0 none := ⟨tb_in 506 (by decide +kernel) (by decide +kernel), im_X1_begin, se_X1_begin, ini_1, cd_X1_begin, pd_X1_begin⟩
theorem lk_1_26 : LkN 1 26 yX6_bitOf cX6_bitOf 1 1 (some .int) := ⟨by decide +kernel, sa_X6_bitOf, ini_6, cd_X6_bitOf, pd_X6_bitOf⟩
theorem lk_1_30 : LkV 1 30 yX1_times cX1_times 3 1 none := ⟨tb_in 508 (by decide +kernel) (by decide +kernel), im_X1_times, se_X1_times, ini_1, cd_X1_times, pd_X1_times⟩
theorem lk_6_173 : LkV 6 173 yX3_mean cX3_mean 6 2 (some .long) := ⟨tb_in 509 (by decide +kernel) (by decide +kernel), im_X3_mean, se_X3_mean, ini_3, cd_X3_mean, pd_X3_mean⟩
set_option maxRecDepth 20000 in
theorem cd_X1_evaluate : Cond.code yX1_evaluate cX1_evaluate 5 (some .long) ∈ tbl := tb_in 513 rfl rfl
theorem im_X1_evaluate : Cond.instanceMethod yX1_evaluate ∈ tbl := tb_in 511 (by decide +kernel) (by decide +kernel)
theorem se_X1_evaluate : Cond.selects yX1_evaluate.cls yX1_evaluate yX1_evaluate ∈ tbl := tb_in 512 (by decide +kernel) (by decide +kernel)
theorem pd_X1_evaluate : yX1_evaluate.cls ≠ "java/lang/invoke/MethodHandle" ∧ yX1_evaluate.cls ≠ "java/lang/invoke/VarHandle" ∧ (parseMethodDescriptor yX1_evaluate.desc).map (fun d => d.parameters.length) = some 1 := by decide +kernel
theorem lk_6_177 : LkV 6 177 yX1_evaluate cX1_evaluate 5 1 (some .long) := ⟨tb_in 510 (by decide +kernel) (by decide +kernel), im_X1_evaluate, se_X1_evaluate, ini_1, cd_X1_evaluate, pd_X1_evaluate⟩
set_option maxRecDepth 20000 in
theorem cd_X6_exact : Cond.code yX6_exact cX6_exact 4 (some .int) ∈ tbl := tb_in 517 rfl rfl
theorem im_X6_exact : Cond.instanceMethod yX6_exact ∈ tbl := tb_in 515 (by decide +kernel) (by decide +kernel)
theorem se_X6_exact : Cond.selects yX6_exact.cls yX6_exact yX6_exact ∈ tbl := tb_in 516 (by decide +kernel) (by decide +kernel)
theorem pd_X6_exact : yX6_exact.cls ≠ "java/lang/invoke/MethodHandle" ∧ yX6_exact.cls ≠ "java/lang/invoke/VarHandle" ∧ (parseMethodDescriptor yX6_exact.desc).map (fun d => d.parameters.length) = some 1 := by decide +kernel
theorem lk_10_88 : LkV 10 88 yX6_exact cX6_exact 4 1 (some .int) := ⟨tb_in 514 (by decide +kernel) (by decide +kernel), im_X6_exact, se_X6_exact, ini_6, cd_X6_exact, pd_X6_exact⟩
set_option maxRecDepth 20000 in
theorem cd_X6_fraction : Cond.code yX6_fraction cX6_fraction 7 (some .long) ∈ tbl := tb_in 521 rfl rfl
theorem im_X6_fraction : Cond.instanceMethod yX6_fraction ∈ tbl := tb_in 519 (by decide +kernel) (by decide +kernel)
theorem se_X6_fraction : Cond.selects yX6_fraction.cls yX6_fraction yX6_fraction ∈ tbl := tb_in 520 (by decide +kernel) (by decide +kernel)
theorem pd_X6_fraction : yX6_fraction.cls ≠ "java/lang/invoke/MethodHandle" ∧ yX6_fraction.cls ≠ "java/lang/invoke/VarHandle" ∧ (parseMethodDescriptor yX6_fraction.desc).map (fun d => d.parameters.length) = some 4 := by decide +kernel
theorem lk_10_92 : LkV 10 92 yX6_fraction cX6_fraction 7 4 (some .long) := ⟨tb_in 518 (by decide +kernel) (by decide +kernel), im_X6_fraction, se_X6_fraction, ini_6, cd_X6_fraction, pd_X6_fraction⟩
set_option maxRecDepth 20000 in
theorem cd_X0_quotientMean : Cond.code yX0_quotientMean cX0_quotientMean 12 (some .long) ∈ tbl := tb_in 525 rfl rfl
theorem im_X0_quotientMean : Cond.instanceMethod yX0_quotientMean ∈ tbl := tb_in 523 (by decide +kernel) (by decide +kernel)
theorem se_X0_quotientMean : Cond.selects yX0_quotientMean.cls yX0_quotientMean yX0_quotientMean ∈ tbl := tb_in 524 (by decide +kernel) (by decide +kernel)
theorem pd_X0_quotientMean : yX0_quotientMean.cls ≠ "java/lang/invoke/MethodHandle" ∧ yX0_quotientMean.cls ≠ "java/lang/invoke/VarHandle" ∧ (parseMethodDescriptor yX0_quotientMean.desc).map (fun d => d.parameters.length) = some 4 := by decide +kernel
theorem lk_6_179 : LkV 6 179 yX0_quotientMean cX0_quotientMean 12 4 (some .long) := ⟨tb_in 522 (by decide +kernel) (by decide +kernel), im_X0_quotientMean, se_X0_quotientMean, ini_0, cd_X0_quotientMean, pd_X0_quotientMean⟩
theorem lk_0_53 : LkN 0 53 yX6_power cX6_power 6 2 (some .long) := ⟨by decide +kernel, sa_X6_power, ini_6, cd_X6_power, pd_X6_power⟩
set_option maxRecDepth 20000 in
theorem cd_X6_step : Cond.code yX6_step cX6_step 9 (some .long) ∈ tbl := tb_in 530 rfl rfl
theorem im_X6_step : Cond.instanceMethod yX6_step ∈ tbl := tb_in 528 (by decide +kernel) (by decide +kernel)
theorem se_X6_step : Cond.selects yX6_step.cls yX6_step yX6_step ∈ tbl := tb_in 529 (by decide +kernel) (by decide +kernel)
theorem pd_X6_step : yX6_step.cls ≠ "java/lang/invoke/MethodHandle" ∧ yX6_step.cls ≠ "java/lang/invoke/VarHandle" ∧ (parseMethodDescriptor yX6_step.desc).map (fun d => d.parameters.length) = some 2 := by decide +kernel
theorem lk_10_96 : LkV 10 96 yX6_step cX6_step 9 2 (some .long) := ⟨tb_in 527 (by decide +kernel) (by decide +kernel), im_X6_step, se_X6_step, ini_6, cd_X6_step, pd_X6_step⟩
set_option maxRecDepth 20000 in
theorem cd_X6_type : Cond.code yX6_type cX6_type 2 (some .int) ∈ tbl := tb_in 534 rfl rfl
theorem im_X6_type : Cond.instanceMethod yX6_type ∈ tbl := tb_in 532 (by decide +kernel) (by decide +kernel)
theorem se_X6_type : Cond.selects yX6_type.cls yX6_type yX6_type ∈ tbl := tb_in 533 (by decide +kernel) (by decide +kernel)
theorem pd_X6_type : yX6_type.cls ≠ "java/lang/invoke/MethodHandle" ∧ yX6_type.cls ≠ "java/lang/invoke/VarHandle" ∧ (parseMethodDescriptor yX6_type.desc).map (fun d => d.parameters.length) = some 1 := by decide +kernel
theorem lk_10_100 : LkV 10 100 yX6_type cX6_type 2 1 (some .int) := ⟨tb_in 531 (by decide +kernel) (by decide +kernel), im_X6_type, se_X6_type, ini_6, cd_X6_type, pd_X6_type⟩
set_option maxRecDepth 20000 in
theorem cd_X5_append : Cond.code yX5_append cX5_append 2 (some .boolean) ∈ tbl := tb_in 538 rfl rfl
theorem im_X5_append : Cond.instanceMethod yX5_append ∈ tbl := tb_in 536 (by decide +kernel) (by decide +kernel)
theorem se_X5_append : Cond.selects yX5_append.cls yX5_append yX5_append ∈ tbl := tb_in 537 (by decide +kernel) (by decide +kernel)
theorem pd_X5_append : yX5_append.cls ≠ "java/lang/invoke/MethodHandle" ∧ yX5_append.cls ≠ "java/lang/invoke/VarHandle" ∧ (parseMethodDescriptor yX5_append.desc).map (fun d => d.parameters.length) = some 1 := by decide +kernel
theorem lk_6_183 : LkV 6 183 yX5_append cX5_append 2 1 (some .boolean) := ⟨tb_in 535 (by decide +kernel) (by decide +kernel), im_X5_append, se_X5_append, ini_5, cd_X5_append, pd_X5_append⟩
set_option maxRecDepth 20000 in
theorem cd_X5_length : Cond.code yX5_length cX5_length 1 (some .int) ∈ tbl := tb_in 543 rfl rfl
theorem im_X5_length : Cond.instanceMethod yX5_length ∈ tbl := tb_in 541 (by decide +kernel) (by decide +kernel)
theorem se_X5_length : Cond.selects yX5_length.cls yX5_length yX5_length ∈ tbl := tb_in 542 (by decide +kernel) (by decide +kernel)
theorem pd_X5_length : yX5_length.cls ≠ "java/lang/invoke/MethodHandle" ∧ yX5_length.cls ≠ "java/lang/invoke/VarHandle" ∧ (parseMethodDescriptor yX5_length.desc).map (fun d => d.parameters.length) = some 0 := by decide +kernel
theorem lk_6_186 : LkV 6 186 yX5_length cX5_length 1 0 (some .int) := ⟨tb_in 540 (by decide +kernel) (by decide +kernel), im_X5_length, se_X5_length, ini_5, cd_X5_length, pd_X5_length⟩
set_option maxRecDepth 20000 in
theorem cd_X6_clear : Cond.code yX6_clear cX6_clear 2 (some .int) ∈ tbl := tb_in 547 rfl rfl
theorem im_X6_clear : Cond.instanceMethod yX6_clear ∈ tbl := tb_in 545 (by decide +kernel) (by decide +kernel)
theorem se_X6_clear : Cond.selects yX6_clear.cls yX6_clear yX6_clear ∈ tbl := tb_in 546 (by decide +kernel) (by decide +kernel)
theorem pd_X6_clear : yX6_clear.cls ≠ "java/lang/invoke/MethodHandle" ∧ yX6_clear.cls ≠ "java/lang/invoke/VarHandle" ∧ (parseMethodDescriptor yX6_clear.desc).map (fun d => d.parameters.length) = some 0 := by decide +kernel
theorem lk_10_104 : LkV 10 104 yX6_clear cX6_clear 2 0 (some .int) := ⟨tb_in 544 (by decide +kernel) (by decide +kernel), im_X6_clear, se_X6_clear, ini_6, cd_X6_clear, pd_X6_clear⟩
set_option maxRecDepth 20000 in
theorem cd_X5_empty : Cond.code yX5_empty cX5_empty 1 none ∈ tbl := tb_in 551 rfl rfl
theorem im_X5_empty : Cond.instanceMethod yX5_empty ∈ tbl := tb_in 549 (by decide +kernel) (by decide +kernel)
theorem se_X5_empty : Cond.selects yX5_empty.cls yX5_empty yX5_empty ∈ tbl := tb_in 550 (by decide +kernel) (by decide +kernel)
theorem pd_X5_empty : yX5_empty.cls ≠ "java/lang/invoke/MethodHandle" ∧ yX5_empty.cls ≠ "java/lang/invoke/VarHandle" ∧ (parseMethodDescriptor yX5_empty.desc).map (fun d => d.parameters.length) = some 0 := by decide +kernel
theorem lk_6_189 : LkV 6 189 yX5_empty cX5_empty 1 0 none := ⟨tb_in 548 (by decide +kernel) (by decide +kernel), im_X5_empty, se_X5_empty, ini_5, cd_X5_empty, pd_X5_empty⟩
set_option maxRecDepth 20000 in
theorem cd_X6_reads : Cond.code yX6_reads cX6_reads 3 (some .int) ∈ tbl := tb_in 555 rfl rfl
theorem im_X6_reads : Cond.instanceMethod yX6_reads ∈ tbl := tb_in 553 (by decide +kernel) (by decide +kernel)
theorem se_X6_reads : Cond.selects yX6_reads.cls yX6_reads yX6_reads ∈ tbl := tb_in 554 (by decide +kernel) (by decide +kernel)
theorem pd_X6_reads : yX6_reads.cls ≠ "java/lang/invoke/MethodHandle" ∧ yX6_reads.cls ≠ "java/lang/invoke/VarHandle" ∧ (parseMethodDescriptor yX6_reads.desc).map (fun d => d.parameters.length) = some 0 := by decide +kernel
theorem lk_10_108 : LkV 10 108 yX6_reads cX6_reads 3 0 (some .int) := ⟨tb_in 552 (by decide +kernel) (by decide +kernel), im_X6_reads, se_X6_reads, ini_6, cd_X6_reads, pd_X6_reads⟩
set_option maxRecDepth 20000 in
theorem cd_X2_scan : Cond.code yX2_scan cX2_scan 3 (some .int) ∈ tbl := tb_in 559 rfl rfl
theorem im_X2_scan : Cond.instanceMethod yX2_scan ∈ tbl := tb_in 557 (by decide +kernel) (by decide +kernel)
theorem se_X2_scan : Cond.selects yX2_scan.cls yX2_scan yX2_scan ∈ tbl := tb_in 558 (by decide +kernel) (by decide +kernel)
theorem pd_X2_scan : yX2_scan.cls ≠ "java/lang/invoke/MethodHandle" ∧ yX2_scan.cls ≠ "java/lang/invoke/VarHandle" ∧ (parseMethodDescriptor yX2_scan.desc).map (fun d => d.parameters.length) = some 1 := by decide +kernel
theorem lk_6_192 : LkV 6 192 yX2_scan cX2_scan 3 1 (some .int) := ⟨tb_in 556 (by decide +kernel) (by decide +kernel), im_X2_scan, se_X2_scan, ini_2, cd_X2_scan, pd_X2_scan⟩
set_option maxRecDepth 20000 in
theorem cd_X2_forgetNumber : Cond.code yX2_forgetNumber cX2_forgetNumber 1 none ∈ tbl := tb_in 563 rfl rfl
theorem im_X2_forgetNumber : Cond.instanceMethod yX2_forgetNumber ∈ tbl := tb_in 562 (by decide +kernel) (by decide +kernel)
theorem se_X2_forgetNumber : Cond.selects yX2_forgetNumber.cls yX2_forgetNumber yX2_forgetNumber ∈ tbl := tb_in 13 (by decide +kernel) (by decide +kernel)
theorem pd_X2_forgetNumber : yX2_forgetNumber.cls ≠ "java/lang/invoke/MethodHandle" ∧ yX2_forgetNumber.cls ≠ "java/lang/invoke/VarHandle" ∧ (parseMethodDescriptor yX2_forgetNumber.desc).map (fun d => d.parameters.length) = some 0 := by decide +kernel
theorem lk_2_31 : LkV 2 31 yX2_forgetNumber cX2_forgetNumber 1 0 none := ⟨tb_in 560 (by decide +kernel) (by decide +kernel), im_X2_forgetNumber, se_X2_forgetNumber, ini_2, cd_X2_forgetNumber, pd_X2_forgetNumber⟩
theorem lk_2_34 : LkV 2 34 yX5_length cX5_length 1 0 (some .int) := ⟨tb_in 564 (by decide +kernel) (by decide +kernel), im_X5_length, se_X5_length, ini_5, cd_X5_length, pd_X5_length⟩
set_option maxRecDepth 20000 in
theorem cd_X5_at : Cond.code yX5_at cX5_at 2 (some .int) ∈ tbl := tb_in 568 rfl rfl
theorem im_X5_at : Cond.instanceMethod yX5_at ∈ tbl := tb_in 566 (by decide +kernel) (by decide +kernel)
theorem se_X5_at : Cond.selects yX5_at.cls yX5_at yX5_at ∈ tbl := tb_in 567 (by decide +kernel) (by decide +kernel)
theorem pd_X5_at : yX5_at.cls ≠ "java/lang/invoke/MethodHandle" ∧ yX5_at.cls ≠ "java/lang/invoke/VarHandle" ∧ (parseMethodDescriptor yX5_at.desc).map (fun d => d.parameters.length) = some 1 := by decide +kernel
theorem lk_2_40 : LkV 2 40 yX5_at cX5_at 2 1 (some .int) := ⟨tb_in 565 (by decide +kernel) (by decide +kernel), im_X5_at, se_X5_at, ini_5, cd_X5_at, pd_X5_at⟩
set_option maxRecDepth 20000 in
theorem cd_X2_accept : Cond.code yX2_accept cX2_accept 2 (some .boolean) ∈ tbl := tb_in 572 rfl rfl
theorem im_X2_accept : Cond.instanceMethod yX2_accept ∈ tbl := tb_in 571 (by decide +kernel) (by decide +kernel)
theorem se_X2_accept : Cond.selects yX2_accept.cls yX2_accept yX2_accept ∈ tbl := tb_in 14 (by decide +kernel) (by decide +kernel)
theorem pd_X2_accept : yX2_accept.cls ≠ "java/lang/invoke/MethodHandle" ∧ yX2_accept.cls ≠ "java/lang/invoke/VarHandle" ∧ (parseMethodDescriptor yX2_accept.desc).map (fun d => d.parameters.length) = some 1 := by decide +kernel
theorem lk_2_44 : LkV 2 44 yX2_accept cX2_accept 2 1 (some .boolean) := ⟨tb_in 569 (by decide +kernel) (by decide +kernel), im_X2_accept, se_X2_accept, ini_2, cd_X2_accept, pd_X2_accept⟩
set_option maxRecDepth 20000 in
theorem cd_X2_acceptFigure : Cond.code yX2_acceptFigure cX2_acceptFigure 2 (some .boolean) ∈ tbl := tb_in 576 rfl rfl
theorem im_X2_acceptFigure : Cond.instanceMethod yX2_acceptFigure ∈ tbl := tb_in 575 (by decide +kernel) (by decide +kernel)
theorem se_X2_acceptFigure : Cond.selects yX2_acceptFigure.cls yX2_acceptFigure yX2_acceptFigure ∈ tbl := tb_in 15 (by decide +kernel) (by decide +kernel)
theorem pd_X2_acceptFigure : yX2_acceptFigure.cls ≠ "java/lang/invoke/MethodHandle" ∧ yX2_acceptFigure.cls ≠ "java/lang/invoke/VarHandle" ∧ (parseMethodDescriptor yX2_acceptFigure.desc).map (fun d => d.parameters.length) = some 1 := by decide +kernel
theorem lk_2_48 : LkV 2 48 yX2_acceptFigure cX2_acceptFigure 2 1 (some .boolean) := ⟨tb_in 573 (by decide +kernel) (by decide +kernel), im_X2_acceptFigure, se_X2_acceptFigure, ini_2, cd_X2_acceptFigure, pd_X2_acceptFigure⟩
set_option maxRecDepth 20000 in
theorem cd_X2_given : Cond.code yX2_given cX2_given 1 (some .int) ∈ tbl := tb_in 580 rfl rfl
theorem im_X2_given : Cond.instanceMethod yX2_given ∈ tbl := tb_in 579 (by decide +kernel) (by decide +kernel)
theorem se_X2_given : Cond.selects yX2_given.cls yX2_given yX2_given ∈ tbl := tb_in 16 (by decide +kernel) (by decide +kernel)
theorem pd_X2_given : yX2_given.cls ≠ "java/lang/invoke/MethodHandle" ∧ yX2_given.cls ≠ "java/lang/invoke/VarHandle" ∧ (parseMethodDescriptor yX2_given.desc).map (fun d => d.parameters.length) = some 0 := by decide +kernel
theorem lk_2_68 : LkV 2 68 yX2_given cX2_given 1 0 (some .int) := ⟨tb_in 577 (by decide +kernel) (by decide +kernel), im_X2_given, se_X2_given, ini_2, cd_X2_given, pd_X2_given⟩
set_option maxRecDepth 20000 in
theorem cd_X2_mostNumbers : Cond.code yX2_mostNumbers cX2_mostNumbers 1 (some .int) ∈ tbl := tb_in 583 rfl rfl
theorem sa_X2_mostNumbers : Cond.static yX2_mostNumbers ∈ tbl := tb_in 582 (by decide +kernel) (by decide +kernel)
theorem pd_X2_mostNumbers : yX2_mostNumbers.cls ≠ "java/lang/invoke/MethodHandle" ∧ yX2_mostNumbers.cls ≠ "java/lang/invoke/VarHandle" ∧ (parseMethodDescriptor yX2_mostNumbers.desc).map (fun d => d.parameters.length) = some 1 := by decide +kernel
theorem lk_2_71 : LkS 2 71 yX2_mostNumbers cX2_mostNumbers 1 1 (some .int) := ⟨tb_in 581 (by decide +kernel) (by decide +kernel), sa_X2_mostNumbers, ini_2, cd_X2_mostNumbers, pd_X2_mostNumbers⟩
set_option maxRecDepth 20000 in
theorem cd_X2_closeNumber : Cond.code yX2_closeNumber cX2_closeNumber 1 none ∈ tbl := tb_in 587 rfl rfl
theorem im_X2_closeNumber : Cond.instanceMethod yX2_closeNumber ∈ tbl := tb_in 586 (by decide +kernel) (by decide +kernel)
theorem se_X2_closeNumber : Cond.selects yX2_closeNumber.cls yX2_closeNumber yX2_closeNumber ∈ tbl := tb_in 17 (by decide +kernel) (by decide +kernel)
theorem pd_X2_closeNumber : yX2_closeNumber.cls ≠ "java/lang/invoke/MethodHandle" ∧ yX2_closeNumber.cls ≠ "java/lang/invoke/VarHandle" ∧ (parseMethodDescriptor yX2_closeNumber.desc).map (fun d => d.parameters.length) = some 0 := by decide +kernel
theorem lk_2_58 : LkV 2 58 yX2_closeNumber cX2_closeNumber 1 0 none := ⟨tb_in 584 (by decide +kernel) (by decide +kernel), im_X2_closeNumber, se_X2_closeNumber, ini_2, cd_X2_closeNumber, pd_X2_closeNumber⟩
set_option maxRecDepth 20000 in
theorem cd_X2_openOrder : Cond.code yX2_openOrder cX2_openOrder 2 (some .boolean) ∈ tbl := tb_in 591 rfl rfl
theorem im_X2_openOrder : Cond.instanceMethod yX2_openOrder ∈ tbl := tb_in 590 (by decide +kernel) (by decide +kernel)
theorem se_X2_openOrder : Cond.selects yX2_openOrder.cls yX2_openOrder yX2_openOrder ∈ tbl := tb_in 18 (by decide +kernel) (by decide +kernel)
theorem pd_X2_openOrder : yX2_openOrder.cls ≠ "java/lang/invoke/MethodHandle" ∧ yX2_openOrder.cls ≠ "java/lang/invoke/VarHandle" ∧ (parseMethodDescriptor yX2_openOrder.desc).map (fun d => d.parameters.length) = some 1 := by decide +kernel
theorem lk_2_61 : LkV 2 61 yX2_openOrder cX2_openOrder 2 1 (some .boolean) := ⟨tb_in 588 (by decide +kernel) (by decide +kernel), im_X2_openOrder, se_X2_openOrder, ini_2, cd_X2_openOrder, pd_X2_openOrder⟩
set_option maxRecDepth 20000 in
theorem cd_X2_closeOrder : Cond.code yX2_closeOrder cX2_closeOrder 1 (some .boolean) ∈ tbl := tb_in 595 rfl rfl
theorem im_X2_closeOrder : Cond.instanceMethod yX2_closeOrder ∈ tbl := tb_in 594 (by decide +kernel) (by decide +kernel)
theorem se_X2_closeOrder : Cond.selects yX2_closeOrder.cls yX2_closeOrder yX2_closeOrder ∈ tbl := tb_in 19 (by decide +kernel) (by decide +kernel)
theorem pd_X2_closeOrder : yX2_closeOrder.cls ≠ "java/lang/invoke/MethodHandle" ∧ yX2_closeOrder.cls ≠ "java/lang/invoke/VarHandle" ∧ (parseMethodDescriptor yX2_closeOrder.desc).map (fun d => d.parameters.length) = some 0 := by decide +kernel
theorem lk_2_64 : LkV 2 64 yX2_closeOrder cX2_closeOrder 1 0 (some .boolean) := ⟨tb_in 592 (by decide +kernel) (by decide +kernel), im_X2_closeOrder, se_X2_closeOrder, ini_2, cd_X2_closeOrder, pd_X2_closeOrder⟩
set_option maxRecDepth 20000 in
theorem cd_X2_leastNumbers : Cond.code yX2_leastNumbers cX2_leastNumbers 1 (some .int) ∈ tbl := tb_in 598 rfl rfl
theorem sa_X2_leastNumbers : Cond.static yX2_leastNumbers ∈ tbl := tb_in 597 (by decide +kernel) (by decide +kernel)
theorem pd_X2_leastNumbers : yX2_leastNumbers.cls ≠ "java/lang/invoke/MethodHandle" ∧ yX2_leastNumbers.cls ≠ "java/lang/invoke/VarHandle" ∧ (parseMethodDescriptor yX2_leastNumbers.desc).map (fun d => d.parameters.length) = some 1 := by decide +kernel
theorem lk_2_77 : LkS 2 77 yX2_leastNumbers cX2_leastNumbers 1 1 (some .int) := ⟨tb_in 596 (by decide +kernel) (by decide +kernel), sa_X2_leastNumbers, ini_2, cd_X2_leastNumbers, pd_X2_leastNumbers⟩
set_option maxRecDepth 20000 in
theorem cd_X2_perform : Cond.code yX2_perform cX2_perform 3 (some .int) ∈ tbl := tb_in 602 rfl rfl
theorem im_X2_perform : Cond.instanceMethod yX2_perform ∈ tbl := tb_in 600 (by decide +kernel) (by decide +kernel)
theorem se_X2_perform : Cond.selects yX2_perform.cls yX2_perform yX2_perform ∈ tbl := tb_in 601 (by decide +kernel) (by decide +kernel)
theorem pd_X2_perform : yX2_perform.cls ≠ "java/lang/invoke/MethodHandle" ∧ yX2_perform.cls ≠ "java/lang/invoke/VarHandle" ∧ (parseMethodDescriptor yX2_perform.desc).map (fun d => d.parameters.length) = some 1 := by decide +kernel
theorem lk_6_196 : LkV 6 196 yX2_perform cX2_perform 3 1 (some .int) := ⟨tb_in 599 (by decide +kernel) (by decide +kernel), im_X2_perform, se_X2_perform, ini_2, cd_X2_perform, pd_X2_perform⟩
set_option maxRecDepth 20000 in
theorem cd_X2_performOne : Cond.code yX2_performOne cX2_performOne 4 (some .int) ∈ tbl := tb_in 606 rfl rfl
theorem im_X2_performOne : Cond.instanceMethod yX2_performOne ∈ tbl := tb_in 605 (by decide +kernel) (by decide +kernel)
theorem se_X2_performOne : Cond.selects yX2_performOne.cls yX2_performOne yX2_performOne ∈ tbl := tb_in 20 (by decide +kernel) (by decide +kernel)
theorem pd_X2_performOne : yX2_performOne.cls ≠ "java/lang/invoke/MethodHandle" ∧ yX2_performOne.cls ≠ "java/lang/invoke/VarHandle" ∧ (parseMethodDescriptor yX2_performOne.desc).map (fun d => d.parameters.length) = some 2 := by decide +kernel
theorem lk_2_80 : LkV 2 80 yX2_performOne cX2_performOne 4 2 (some .int) := ⟨tb_in 603 (by decide +kernel) (by decide +kernel), im_X2_performOne, se_X2_performOne, ini_2, cd_X2_performOne, pd_X2_performOne⟩
theorem lk_2_84 : LkN 2 84 yX6_isOutside cX6_isOutside 3 3 (some .boolean) := ⟨by decide +kernel, sa_X6_isOutside, ini_6, cd_X6_isOutside, pd_X6_isOutside⟩
set_option maxRecDepth 20000 in
theorem cd_X3_replace : Cond.code yX3_replace cX3_replace 5 (some .int) ∈ tbl := tb_in 612 rfl rfl
theorem im_X3_replace : Cond.instanceMethod yX3_replace ∈ tbl := tb_in 610 (by decide +kernel) (by decide +kernel)
theorem se_X3_replace : Cond.selects yX3_replace.cls yX3_replace yX3_replace ∈ tbl := tb_in 611 (by decide +kernel) (by decide +kernel)
theorem pd_X3_replace : yX3_replace.cls ≠ "java/lang/invoke/MethodHandle" ∧ yX3_replace.cls ≠ "java/lang/invoke/VarHandle" ∧ (parseMethodDescriptor yX3_replace.desc).map (fun d => d.parameters.length) = some 3 := by decide +kernel
theorem lk_2_89 : LkV 2 89 yX3_replace cX3_replace 5 3 (some .int) := ⟨tb_in 609 (by decide +kernel) (by decide +kernel), im_X3_replace, se_X3_replace, ini_3, cd_X3_replace, pd_X3_replace⟩
set_option maxRecDepth 20000 in
theorem cd_X2_number : Cond.code yX2_number cX2_number 2 (some .int) ∈ tbl := tb_in 616 rfl rfl
theorem im_X2_number : Cond.instanceMethod yX2_number ∈ tbl := tb_in 614 (by decide +kernel) (by decide +kernel)
theorem se_X2_number : Cond.selects yX2_number.cls yX2_number yX2_number ∈ tbl := tb_in 615 (by decide +kernel) (by decide +kernel)
theorem pd_X2_number : yX2_number.cls ≠ "java/lang/invoke/MethodHandle" ∧ yX2_number.cls ≠ "java/lang/invoke/VarHandle" ∧ (parseMethodDescriptor yX2_number.desc).map (fun d => d.parameters.length) = some 1 := by decide +kernel
theorem lk_3_73 : LkV 3 73 yX2_number cX2_number 2 1 (some .int) := ⟨tb_in 613 (by decide +kernel) (by decide +kernel), im_X2_number, se_X2_number, ini_2, cd_X2_number, pd_X2_number⟩
theorem lk_2_95 : LkV 2 95 yX2_number cX2_number 2 1 (some .int) := ⟨tb_in 617 (by decide +kernel) (by decide +kernel), im_X2_number, se_X2_number, ini_2, cd_X2_number, pd_X2_number⟩
theorem lk_2_98 : LkV 2 98 yX3_addPlace cX3_addPlace 6 2 (some .int) := ⟨tb_in 618 (by decide +kernel) (by decide +kernel), im_X3_addPlace, se_X3_addPlace, ini_3, cd_X3_addPlace, pd_X3_addPlace⟩
theorem lk_2_102 : LkV 2 102 yX3_shift cX3_shift 3 1 (some .int) := ⟨tb_in 619 (by decide +kernel) (by decide +kernel), im_X3_shift, se_X3_shift, ini_3, cd_X3_shift, pd_X3_shift⟩
theorem lk_2_105 : LkV 2 105 yX3_scale cX3_scale 5 1 (some .int) := ⟨tb_in 620 (by decide +kernel) (by decide +kernel), im_X3_scale, se_X3_scale, ini_3, cd_X3_scale, pd_X3_scale⟩
theorem lk_2_108 : LkV 2 108 yX3_reweigh cX3_reweigh 3 1 (some .int) := ⟨tb_in 621 (by decide +kernel) (by decide +kernel), im_X3_reweigh, se_X3_reweigh, ini_3, cd_X3_reweigh, pd_X3_reweigh⟩
theorem lk_2_111 : LkV 2 111 yX3_append cX3_append 2 1 (some .int) := ⟨tb_in 622 (by decide +kernel) (by decide +kernel), im_X3_append, se_X3_append, ini_3, cd_X3_append, pd_X3_append⟩
theorem lk_2_114 : LkV 2 114 yX3_drop cX3_drop 1 0 (some .int) := ⟨tb_in 623 (by decide +kernel) (by decide +kernel), im_X3_drop, se_X3_drop, ini_3, cd_X3_drop, pd_X3_drop⟩
set_option maxRecDepth 20000 in
theorem cd_X2_orders : Cond.code yX2_orders cX2_orders 1 (some .int) ∈ tbl := tb_in 627 rfl rfl
theorem im_X2_orders : Cond.instanceMethod yX2_orders ∈ tbl := tb_in 625 (by decide +kernel) (by decide +kernel)
theorem se_X2_orders : Cond.selects yX2_orders.cls yX2_orders yX2_orders ∈ tbl := tb_in 626 (by decide +kernel) (by decide +kernel)
theorem pd_X2_orders : yX2_orders.cls ≠ "java/lang/invoke/MethodHandle" ∧ yX2_orders.cls ≠ "java/lang/invoke/VarHandle" ∧ (parseMethodDescriptor yX2_orders.desc).map (fun d => d.parameters.length) = some 0 := by decide +kernel
theorem lk_6_200 : LkV 6 200 yX2_orders cX2_orders 1 0 (some .int) := ⟨tb_in 624 (by decide +kernel) (by decide +kernel), im_X2_orders, se_X2_orders, ini_2, cd_X2_orders, pd_X2_orders⟩
set_option maxRecDepth 20000 in
theorem cd_X6_back : Cond.code yX6_back cX6_back 1 (some .int) ∈ tbl := tb_in 631 rfl rfl
theorem im_X6_back : Cond.instanceMethod yX6_back ∈ tbl := tb_in 629 (by decide +kernel) (by decide +kernel)
theorem se_X6_back : Cond.selects yX6_back.cls yX6_back yX6_back ∈ tbl := tb_in 630 (by decide +kernel) (by decide +kernel)
theorem pd_X6_back : yX6_back.cls ≠ "java/lang/invoke/MethodHandle" ∧ yX6_back.cls ≠ "java/lang/invoke/VarHandle" ∧ (parseMethodDescriptor yX6_back.desc).map (fun d => d.parameters.length) = some 0 := by decide +kernel
theorem lk_10_112 : LkV 10 112 yX6_back cX6_back 1 0 (some .int) := ⟨tb_in 628 (by decide +kernel) (by decide +kernel), im_X6_back, se_X6_back, ini_6, cd_X6_back, pd_X6_back⟩
set_option maxRecDepth 20000 in
theorem cd_X4_depth : Cond.code yX4_depth cX4_depth 1 (some .int) ∈ tbl := tb_in 635 rfl rfl
theorem im_X4_depth : Cond.instanceMethod yX4_depth ∈ tbl := tb_in 633 (by decide +kernel) (by decide +kernel)
theorem se_X4_depth : Cond.selects yX4_depth.cls yX4_depth yX4_depth ∈ tbl := tb_in 634 (by decide +kernel) (by decide +kernel)
theorem pd_X4_depth : yX4_depth.cls ≠ "java/lang/invoke/MethodHandle" ∧ yX4_depth.cls ≠ "java/lang/invoke/VarHandle" ∧ (parseMethodDescriptor yX4_depth.desc).map (fun d => d.parameters.length) = some 0 := by decide +kernel
theorem lk_6_203 : LkV 6 203 yX4_depth cX4_depth 1 0 (some .int) := ⟨tb_in 632 (by decide +kernel) (by decide +kernel), im_X4_depth, se_X4_depth, ini_4, cd_X4_depth, pd_X4_depth⟩
set_option maxRecDepth 20000 in
theorem cd_X4_pop : Cond.code yX4_pop cX4_pop 2 none ∈ tbl := tb_in 639 rfl rfl
theorem im_X4_pop : Cond.instanceMethod yX4_pop ∈ tbl := tb_in 637 (by decide +kernel) (by decide +kernel)
theorem se_X4_pop : Cond.selects yX4_pop.cls yX4_pop yX4_pop ∈ tbl := tb_in 638 (by decide +kernel) (by decide +kernel)
theorem pd_X4_pop : yX4_pop.cls ≠ "java/lang/invoke/MethodHandle" ∧ yX4_pop.cls ≠ "java/lang/invoke/VarHandle" ∧ (parseMethodDescriptor yX4_pop.desc).map (fun d => d.parameters.length) = some 1 := by decide +kernel
theorem lk_6_206 : LkV 6 206 yX4_pop cX4_pop 2 1 none := ⟨tb_in 636 (by decide +kernel) (by decide +kernel), im_X4_pop, se_X4_pop, ini_4, cd_X4_pop, pd_X4_pop⟩
set_option maxRecDepth 20000 in
theorem cd_X3_load : Cond.code yX3_load cX3_load 4 none ∈ tbl := tb_in 643 rfl rfl
theorem im_X3_load : Cond.instanceMethod yX3_load ∈ tbl := tb_in 641 (by decide +kernel) (by decide +kernel)
theorem se_X3_load : Cond.selects yX3_load.cls yX3_load yX3_load ∈ tbl := tb_in 642 (by decide +kernel) (by decide +kernel)
theorem pd_X3_load : yX3_load.cls ≠ "java/lang/invoke/MethodHandle" ∧ yX3_load.cls ≠ "java/lang/invoke/VarHandle" ∧ (parseMethodDescriptor yX3_load.desc).map (fun d => d.parameters.length) = some 2 := by decide +kernel
theorem lk_4_32 : LkV 4 32 yX3_load cX3_load 4 2 none := ⟨tb_in 640 (by decide +kernel) (by decide +kernel), im_X3_load, se_X3_load, ini_3, cd_X3_load, pd_X3_load⟩
set_option maxRecDepth 20000 in
theorem cd_X6_told : Cond.code yX6_told cX6_told 2 (some .int) ∈ tbl := tb_in 647 rfl rfl
theorem im_X6_told : Cond.instanceMethod yX6_told ∈ tbl := tb_in 645 (by decide +kernel) (by decide +kernel)
theorem se_X6_told : Cond.selects yX6_told.cls yX6_told yX6_told ∈ tbl := tb_in 646 (by decide +kernel) (by decide +kernel)
theorem pd_X6_told : yX6_told.cls ≠ "java/lang/invoke/MethodHandle" ∧ yX6_told.cls ≠ "java/lang/invoke/VarHandle" ∧ (parseMethodDescriptor yX6_told.desc).map (fun d => d.parameters.length) = some 1 := by decide +kernel
theorem lk_10_116 : LkV 10 116 yX6_told cX6_told 2 1 (some .int) := ⟨tb_in 644 (by decide +kernel) (by decide +kernel), im_X6_told, se_X6_told, ini_6, cd_X6_told, pd_X6_told⟩
set_option maxRecDepth 20000 in
theorem cd_X6_tally : Cond.code yX6_tally cX6_tally 2 (some .int) ∈ tbl := tb_in 651 rfl rfl
theorem im_X6_tally : Cond.instanceMethod yX6_tally ∈ tbl := tb_in 650 (by decide +kernel) (by decide +kernel)
theorem se_X6_tally : Cond.selects yX6_tally.cls yX6_tally yX6_tally ∈ tbl := tb_in 21 (by decide +kernel) (by decide +kernel)
theorem pd_X6_tally : yX6_tally.cls ≠ "java/lang/invoke/MethodHandle" ∧ yX6_tally.cls ≠ "java/lang/invoke/VarHandle" ∧ (parseMethodDescriptor yX6_tally.desc).map (fun d => d.parameters.length) = some 1 := by decide +kernel
theorem lk_6_209 : LkV 6 209 yX6_tally cX6_tally 2 1 (some .int) := ⟨tb_in 648 (by decide +kernel) (by decide +kernel), im_X6_tally, se_X6_tally, ini_6, cd_X6_tally, pd_X6_tally⟩
set_option maxRecDepth 20000 in
theorem cd_X6_digest : Cond.code yX6_digest cX6_digest 4 (some .long) ∈ tbl := tb_in 655 rfl rfl
theorem im_X6_digest : Cond.instanceMethod yX6_digest ∈ tbl := tb_in 653 (by decide +kernel) (by decide +kernel)
theorem se_X6_digest : Cond.selects yX6_digest.cls yX6_digest yX6_digest ∈ tbl := tb_in 654 (by decide +kernel) (by decide +kernel)
theorem pd_X6_digest : yX6_digest.cls ≠ "java/lang/invoke/MethodHandle" ∧ yX6_digest.cls ≠ "java/lang/invoke/VarHandle" ∧ (parseMethodDescriptor yX6_digest.desc).map (fun d => d.parameters.length) = some 0 := by decide +kernel
theorem lk_10_120 : LkV 10 120 yX6_digest cX6_digest 4 0 (some .long) := ⟨tb_in 652 (by decide +kernel) (by decide +kernel), im_X6_digest, se_X6_digest, ini_6, cd_X6_digest, pd_X6_digest⟩
set_option maxRecDepth 20000 in
theorem cd_X6_digestPolynomial : Cond.code yX6_digestPolynomial cX6_digestPolynomial 7 (some .long) ∈ tbl := tb_in 661 rfl rfl
theorem im_X6_digestPolynomial : Cond.instanceMethod yX6_digestPolynomial ∈ tbl := tb_in 660 (by decide +kernel) (by decide +kernel)
theorem se_X6_digestPolynomial : Cond.selects yX6_digestPolynomial.cls yX6_digestPolynomial yX6_digestPolynomial ∈ tbl := tb_in 22 (by decide +kernel) (by decide +kernel)
theorem pd_X6_digestPolynomial : yX6_digestPolynomial.cls ≠ "java/lang/invoke/MethodHandle" ∧ yX6_digestPolynomial.cls ≠ "java/lang/invoke/VarHandle" ∧ (parseMethodDescriptor yX6_digestPolynomial.desc).map (fun d => d.parameters.length) = some 2 := by decide +kernel
theorem lk_6_219 : LkV 6 219 yX6_digestPolynomial cX6_digestPolynomial 7 2 (some .long) := ⟨tb_in 658 (by decide +kernel) (by decide +kernel), im_X6_digestPolynomial, se_X6_digestPolynomial, ini_6, cd_X6_digestPolynomial, pd_X6_digestPolynomial⟩
set_option maxRecDepth 20000 in
theorem cd_X7_moment : Cond.code yX7_moment cX7_moment 4 (some .int) ∈ tbl := tb_in 747 rfl rfl
theorem im_X7_moment : Cond.instanceMethod yX7_moment ∈ tbl := tb_in 745 (by decide +kernel) (by decide +kernel)
theorem se_X7_moment : Cond.selects yX7_moment.cls yX7_moment yX7_moment ∈ tbl := tb_in 746 (by decide +kernel) (by decide +kernel)
theorem pd_X7_moment : yX7_moment.cls ≠ "java/lang/invoke/MethodHandle" ∧ yX7_moment.cls ≠ "java/lang/invoke/VarHandle" ∧ (parseMethodDescriptor yX7_moment.desc).map (fun d => d.parameters.length) = some 2 := by decide +kernel
theorem lk_10_17 : LkV 10 17 yX7_moment cX7_moment 4 2 (some .int) := ⟨tb_in 744 (by decide +kernel) (by decide +kernel), im_X7_moment, se_X7_moment, ini_7, cd_X7_moment, pd_X7_moment⟩
set_option maxRecDepth 20000 in
theorem cd_X7_in : Cond.code yX7_in cX7_in 6 (some .boolean) ∈ tbl := tb_in 750 rfl rfl
theorem sa_X7_in : Cond.static yX7_in ∈ tbl := tb_in 749 (by decide +kernel) (by decide +kernel)
theorem pd_X7_in : yX7_in.cls ≠ "java/lang/invoke/MethodHandle" ∧ yX7_in.cls ≠ "java/lang/invoke/VarHandle" ∧ (parseMethodDescriptor yX7_in.desc).map (fun d => d.parameters.length) = some 3 := by decide +kernel
theorem lk_7_64 : LkS 7 64 yX7_in cX7_in 6 3 (some .boolean) := ⟨tb_in 748 (by decide +kernel) (by decide +kernel), sa_X7_in, ini_7, cd_X7_in, pd_X7_in⟩
set_option maxRecDepth 20000 in
theorem cd_X7_bad : Cond.code yX7_bad cX7_bad 1 (some .int) ∈ tbl := tb_in 756 rfl rfl
theorem im_X7_bad : Cond.instanceMethod yX7_bad ∈ tbl := tb_in 755 (by decide +kernel) (by decide +kernel)
theorem se_X7_bad : Cond.selects yX7_bad.cls yX7_bad yX7_bad ∈ tbl := tb_in 23 (by decide +kernel) (by decide +kernel)
theorem pd_X7_bad : yX7_bad.cls ≠ "java/lang/invoke/MethodHandle" ∧ yX7_bad.cls ≠ "java/lang/invoke/VarHandle" ∧ (parseMethodDescriptor yX7_bad.desc).map (fun d => d.parameters.length) = some 0 := by decide +kernel
theorem lk_7_72 : LkV 7 72 yX7_bad cX7_bad 1 0 (some .int) := ⟨tb_in 753 (by decide +kernel) (by decide +kernel), im_X7_bad, se_X7_bad, ini_7, cd_X7_bad, pd_X7_bad⟩
set_option maxRecDepth 20000 in
theorem cd_X7_note : Cond.code yX7_note cX7_note 3 none ∈ tbl := tb_in 761 rfl rfl
theorem im_X7_note : Cond.instanceMethod yX7_note ∈ tbl := tb_in 760 (by decide +kernel) (by decide +kernel)
theorem se_X7_note : Cond.selects yX7_note.cls yX7_note yX7_note ∈ tbl := tb_in 24 (by decide +kernel) (by decide +kernel)
theorem pd_X7_note : yX7_note.cls ≠ "java/lang/invoke/MethodHandle" ∧ yX7_note.cls ≠ "java/lang/invoke/VarHandle" ∧ (parseMethodDescriptor yX7_note.desc).map (fun d => d.parameters.length) = some 1 := by decide +kernel
theorem lk_7_76 : LkV 7 76 yX7_note cX7_note 3 1 none := ⟨tb_in 758 (by decide +kernel) (by decide +kernel), im_X7_note, se_X7_note, ini_7, cd_X7_note, pd_X7_note⟩
set_option maxRecDepth 20000 in
theorem cd_X7_bring : Cond.code yX7_bring cX7_bring 6 none ∈ tbl := tb_in 765 rfl rfl
theorem im_X7_bring : Cond.instanceMethod yX7_bring ∈ tbl := tb_in 764 (by decide +kernel) (by decide +kernel)
theorem se_X7_bring : Cond.selects yX7_bring.cls yX7_bring yX7_bring ∈ tbl := tb_in 25 (by decide +kernel) (by decide +kernel)
theorem pd_X7_bring : yX7_bring.cls ≠ "java/lang/invoke/MethodHandle" ∧ yX7_bring.cls ≠ "java/lang/invoke/VarHandle" ∧ (parseMethodDescriptor yX7_bring.desc).map (fun d => d.parameters.length) = some 4 := by decide +kernel
theorem lk_7_60 : LkV 7 60 yX7_bring cX7_bring 6 4 none := ⟨tb_in 762 (by decide +kernel) (by decide +kernel), im_X7_bring, se_X7_bring, ini_7, cd_X7_bring, pd_X7_bring⟩
set_option maxRecDepth 20000 in
theorem cd_X7_more : Cond.code yX7_more cX7_more 2 (some .int) ∈ tbl := tb_in 769 rfl rfl
theorem im_X7_more : Cond.instanceMethod yX7_more ∈ tbl := tb_in 767 (by decide +kernel) (by decide +kernel)
theorem se_X7_more : Cond.selects yX7_more.cls yX7_more yX7_more ∈ tbl := tb_in 768 (by decide +kernel) (by decide +kernel)
theorem pd_X7_more : yX7_more.cls ≠ "java/lang/invoke/MethodHandle" ∧ yX7_more.cls ≠ "java/lang/invoke/VarHandle" ∧ (parseMethodDescriptor yX7_more.desc).map (fun d => d.parameters.length) = some 1 := by decide +kernel
theorem lk_10_22 : LkV 10 22 yX7_more cX7_more 2 1 (some .int) := ⟨tb_in 766 (by decide +kernel) (by decide +kernel), im_X7_more, se_X7_more, ini_7, cd_X7_more, pd_X7_more⟩
set_option maxRecDepth 20000 in
theorem cd_X7_full : Cond.code yX7_full cX7_full 1 (some .int) ∈ tbl := tb_in 773 rfl rfl
theorem im_X7_full : Cond.instanceMethod yX7_full ∈ tbl := tb_in 772 (by decide +kernel) (by decide +kernel)
theorem se_X7_full : Cond.selects yX7_full.cls yX7_full yX7_full ∈ tbl := tb_in 26 (by decide +kernel) (by decide +kernel)
theorem pd_X7_full : yX7_full.cls ≠ "java/lang/invoke/MethodHandle" ∧ yX7_full.cls ≠ "java/lang/invoke/VarHandle" ∧ (parseMethodDescriptor yX7_full.desc).map (fun d => d.parameters.length) = some 0 := by decide +kernel
theorem lk_7_80 : LkV 7 80 yX7_full cX7_full 1 0 (some .int) := ⟨tb_in 770 (by decide +kernel) (by decide +kernel), im_X7_full, se_X7_full, ini_7, cd_X7_full, pd_X7_full⟩
set_option maxRecDepth 20000 in
theorem cd_X7_put : Cond.code yX7_put cX7_put 2 none ∈ tbl := tb_in 778 rfl rfl
theorem im_X7_put : Cond.instanceMethod yX7_put ∈ tbl := tb_in 777 (by decide +kernel) (by decide +kernel)
theorem se_X7_put : Cond.selects yX7_put.cls yX7_put yX7_put ∈ tbl := tb_in 27 (by decide +kernel) (by decide +kernel)
theorem pd_X7_put : yX7_put.cls ≠ "java/lang/invoke/MethodHandle" ∧ yX7_put.cls ≠ "java/lang/invoke/VarHandle" ∧ (parseMethodDescriptor yX7_put.desc).map (fun d => d.parameters.length) = some 1 := by decide +kernel
theorem lk_7_83 : LkV 7 83 yX7_put cX7_put 2 1 none := ⟨tb_in 775 (by decide +kernel) (by decide +kernel), im_X7_put, se_X7_put, ini_7, cd_X7_put, pd_X7_put⟩
set_option maxRecDepth 20000 in
theorem cd_X7_less : Cond.code yX7_less cX7_less 1 (some .int) ∈ tbl := tb_in 782 rfl rfl
theorem im_X7_less : Cond.instanceMethod yX7_less ∈ tbl := tb_in 780 (by decide +kernel) (by decide +kernel)
theorem se_X7_less : Cond.selects yX7_less.cls yX7_less yX7_less ∈ tbl := tb_in 781 (by decide +kernel) (by decide +kernel)
theorem pd_X7_less : yX7_less.cls ≠ "java/lang/invoke/MethodHandle" ∧ yX7_less.cls ≠ "java/lang/invoke/VarHandle" ∧ (parseMethodDescriptor yX7_less.desc).map (fun d => d.parameters.length) = some 0 := by decide +kernel
theorem lk_10_27 : LkV 10 27 yX7_less cX7_less 1 0 (some .int) := ⟨tb_in 779 (by decide +kernel) (by decide +kernel), im_X7_less, se_X7_less, ini_7, cd_X7_less, pd_X7_less⟩
set_option maxRecDepth 20000 in
theorem cd_X7_no : Cond.code yX7_no cX7_no 1 (some .int) ∈ tbl := tb_in 786 rfl rfl
theorem im_X7_no : Cond.instanceMethod yX7_no ∈ tbl := tb_in 785 (by decide +kernel) (by decide +kernel)
theorem se_X7_no : Cond.selects yX7_no.cls yX7_no yX7_no ∈ tbl := tb_in 28 (by decide +kernel) (by decide +kernel)
theorem pd_X7_no : yX7_no.cls ≠ "java/lang/invoke/MethodHandle" ∧ yX7_no.cls ≠ "java/lang/invoke/VarHandle" ∧ (parseMethodDescriptor yX7_no.desc).map (fun d => d.parameters.length) = some 0 := by decide +kernel
theorem lk_7_87 : LkV 7 87 yX7_no cX7_no 1 0 (some .int) := ⟨tb_in 783 (by decide +kernel) (by decide +kernel), im_X7_no, se_X7_no, ini_7, cd_X7_no, pd_X7_no⟩
set_option maxRecDepth 20000 in
theorem cd_X7_cut : Cond.code yX7_cut cX7_cut 1 none ∈ tbl := tb_in 791 rfl rfl
theorem im_X7_cut : Cond.instanceMethod yX7_cut ∈ tbl := tb_in 790 (by decide +kernel) (by decide +kernel)
theorem se_X7_cut : Cond.selects yX7_cut.cls yX7_cut yX7_cut ∈ tbl := tb_in 29 (by decide +kernel) (by decide +kernel)
theorem pd_X7_cut : yX7_cut.cls ≠ "java/lang/invoke/MethodHandle" ∧ yX7_cut.cls ≠ "java/lang/invoke/VarHandle" ∧ (parseMethodDescriptor yX7_cut.desc).map (fun d => d.parameters.length) = some 0 := by decide +kernel
theorem lk_7_90 : LkV 7 90 yX7_cut cX7_cut 1 0 none := ⟨tb_in 788 (by decide +kernel) (by decide +kernel), im_X7_cut, se_X7_cut, ini_7, cd_X7_cut, pd_X7_cut⟩
set_option maxRecDepth 20000 in
theorem cd_X7_adds : Cond.code yX7_adds cX7_adds 3 (some .int) ∈ tbl := tb_in 795 rfl rfl
theorem im_X7_adds : Cond.instanceMethod yX7_adds ∈ tbl := tb_in 793 (by decide +kernel) (by decide +kernel)
theorem se_X7_adds : Cond.selects yX7_adds.cls yX7_adds yX7_adds ∈ tbl := tb_in 794 (by decide +kernel) (by decide +kernel)
theorem pd_X7_adds : yX7_adds.cls ≠ "java/lang/invoke/MethodHandle" ∧ yX7_adds.cls ≠ "java/lang/invoke/VarHandle" ∧ (parseMethodDescriptor yX7_adds.desc).map (fun d => d.parameters.length) = some 2 := by decide +kernel
theorem lk_10_31 : LkV 10 31 yX7_adds cX7_adds 3 2 (some .int) := ⟨tb_in 792 (by decide +kernel) (by decide +kernel), im_X7_adds, se_X7_adds, ini_7, cd_X7_adds, pd_X7_adds⟩
set_option maxRecDepth 20000 in
theorem cd_X7_isPlace : Cond.code yX7_isPlace cX7_isPlace 1 (some .boolean) ∈ tbl := tb_in 798 rfl rfl
theorem sa_X7_isPlace : Cond.static yX7_isPlace ∈ tbl := tb_in 797 (by decide +kernel) (by decide +kernel)
theorem pd_X7_isPlace : yX7_isPlace.cls ≠ "java/lang/invoke/MethodHandle" ∧ yX7_isPlace.cls ≠ "java/lang/invoke/VarHandle" ∧ (parseMethodDescriptor yX7_isPlace.desc).map (fun d => d.parameters.length) = some 1 := by decide +kernel
theorem lk_7_113 : LkS 7 113 yX7_isPlace cX7_isPlace 1 1 (some .boolean) := ⟨tb_in 796 (by decide +kernel) (by decide +kernel), sa_X7_isPlace, ini_7, cd_X7_isPlace, pd_X7_isPlace⟩
set_option maxRecDepth 20000 in
theorem cd_X7_isWeight : Cond.code yX7_isWeight cX7_isWeight 1 (some .boolean) ∈ tbl := tb_in 803 rfl rfl
theorem sa_X7_isWeight : Cond.static yX7_isWeight ∈ tbl := tb_in 802 (by decide +kernel) (by decide +kernel)
theorem pd_X7_isWeight : yX7_isWeight.cls ≠ "java/lang/invoke/MethodHandle" ∧ yX7_isWeight.cls ≠ "java/lang/invoke/VarHandle" ∧ (parseMethodDescriptor yX7_isWeight.desc).map (fun d => d.parameters.length) = some 1 := by decide +kernel
theorem lk_7_116 : LkS 7 116 yX7_isWeight cX7_isWeight 1 1 (some .boolean) := ⟨tb_in 801 (by decide +kernel) (by decide +kernel), sa_X7_isWeight, ini_7, cd_X7_isWeight, pd_X7_isWeight⟩
set_option maxRecDepth 20000 in
theorem cd_X7_addPlace : Cond.code yX7_addPlace cX7_addPlace 4 (some .boolean) ∈ tbl := tb_in 809 rfl rfl
theorem im_X7_addPlace : Cond.instanceMethod yX7_addPlace ∈ tbl := tb_in 808 (by decide +kernel) (by decide +kernel)
theorem se_X7_addPlace : Cond.selects yX7_addPlace.cls yX7_addPlace yX7_addPlace ∈ tbl := tb_in 30 (by decide +kernel) (by decide +kernel)
theorem pd_X7_addPlace : yX7_addPlace.cls ≠ "java/lang/invoke/MethodHandle" ∧ yX7_addPlace.cls ≠ "java/lang/invoke/VarHandle" ∧ (parseMethodDescriptor yX7_addPlace.desc).map (fun d => d.parameters.length) = some 2 := by decide +kernel
theorem lk_7_119 : LkV 7 119 yX7_addPlace cX7_addPlace 4 2 (some .boolean) := ⟨tb_in 806 (by decide +kernel) (by decide +kernel), im_X7_addPlace, se_X7_addPlace, ini_7, cd_X7_addPlace, pd_X7_addPlace⟩
set_option maxRecDepth 20000 in
theorem cd_X7_power : Cond.code yX7_power cX7_power 6 (some .long) ∈ tbl := tb_in 812 rfl rfl
theorem sa_X7_power : Cond.static yX7_power ∈ tbl := tb_in 811 (by decide +kernel) (by decide +kernel)
theorem pd_X7_power : yX7_power.cls ≠ "java/lang/invoke/MethodHandle" ∧ yX7_power.cls ≠ "java/lang/invoke/VarHandle" ∧ (parseMethodDescriptor yX7_power.desc).map (fun d => d.parameters.length) = some 2 := by decide +kernel
theorem lk_7_93 : LkS 7 93 yX7_power cX7_power 6 2 (some .long) := ⟨tb_in 810 (by decide +kernel) (by decide +kernel), sa_X7_power, ini_7, cd_X7_power, pd_X7_power⟩
set_option maxRecDepth 20000 in
theorem cd_X7_takeMade : Cond.code yX7_takeMade cX7_takeMade 4 (some .boolean) ∈ tbl := tb_in 816 rfl rfl
theorem im_X7_takeMade : Cond.instanceMethod yX7_takeMade ∈ tbl := tb_in 815 (by decide +kernel) (by decide +kernel)
theorem se_X7_takeMade : Cond.selects yX7_takeMade.cls yX7_takeMade yX7_takeMade ∈ tbl := tb_in 31 (by decide +kernel) (by decide +kernel)
theorem pd_X7_takeMade : yX7_takeMade.cls ≠ "java/lang/invoke/MethodHandle" ∧ yX7_takeMade.cls ≠ "java/lang/invoke/VarHandle" ∧ (parseMethodDescriptor yX7_takeMade.desc).map (fun d => d.parameters.length) = some 1 := by decide +kernel
theorem lk_7_97 : LkV 7 97 yX7_takeMade cX7_takeMade 4 1 (some .boolean) := ⟨tb_in 813 (by decide +kernel) (by decide +kernel), im_X7_takeMade, se_X7_takeMade, ini_7, cd_X7_takeMade, pd_X7_takeMade⟩
set_option maxRecDepth 20000 in
theorem cd_X7_moves : Cond.code yX7_moves cX7_moves 2 (some .int) ∈ tbl := tb_in 820 rfl rfl
theorem im_X7_moves : Cond.instanceMethod yX7_moves ∈ tbl := tb_in 818 (by decide +kernel) (by decide +kernel)
theorem se_X7_moves : Cond.selects yX7_moves.cls yX7_moves yX7_moves ∈ tbl := tb_in 819 (by decide +kernel) (by decide +kernel)
theorem pd_X7_moves : yX7_moves.cls ≠ "java/lang/invoke/MethodHandle" ∧ yX7_moves.cls ≠ "java/lang/invoke/VarHandle" ∧ (parseMethodDescriptor yX7_moves.desc).map (fun d => d.parameters.length) = some 1 := by decide +kernel
theorem lk_10_35 : LkV 10 35 yX7_moves cX7_moves 2 1 (some .int) := ⟨tb_in 817 (by decide +kernel) (by decide +kernel), im_X7_moves, se_X7_moves, ini_7, cd_X7_moves, pd_X7_moves⟩
set_option maxRecDepth 20000 in
theorem cd_X7_move : Cond.code yX7_move cX7_move 6 (some .boolean) ∈ tbl := tb_in 824 rfl rfl
theorem im_X7_move : Cond.instanceMethod yX7_move ∈ tbl := tb_in 823 (by decide +kernel) (by decide +kernel)
theorem se_X7_move : Cond.selects yX7_move.cls yX7_move yX7_move ∈ tbl := tb_in 32 (by decide +kernel) (by decide +kernel)
theorem pd_X7_move : yX7_move.cls ≠ "java/lang/invoke/MethodHandle" ∧ yX7_move.cls ≠ "java/lang/invoke/VarHandle" ∧ (parseMethodDescriptor yX7_move.desc).map (fun d => d.parameters.length) = some 1 := by decide +kernel
theorem lk_7_123 : LkV 7 123 yX7_move cX7_move 6 1 (some .boolean) := ⟨tb_in 821 (by decide +kernel) (by decide +kernel), im_X7_move, se_X7_move, ini_7, cd_X7_move, pd_X7_move⟩
set_option maxRecDepth 20000 in
theorem cd_X7_choose : Cond.code yX7_choose cX7_choose 5 (some .long) ∈ tbl := tb_in 827 rfl rfl
theorem sa_X7_choose : Cond.static yX7_choose ∈ tbl := tb_in 826 (by decide +kernel) (by decide +kernel)
theorem pd_X7_choose : yX7_choose.cls ≠ "java/lang/invoke/MethodHandle" ∧ yX7_choose.cls ≠ "java/lang/invoke/VarHandle" ∧ (parseMethodDescriptor yX7_choose.desc).map (fun d => d.parameters.length) = some 2 := by decide +kernel
theorem lk_7_101 : LkS 7 101 yX7_choose cX7_choose 5 2 (some .long) := ⟨tb_in 825 (by decide +kernel) (by decide +kernel), sa_X7_choose, ini_7, cd_X7_choose, pd_X7_choose⟩
set_option maxRecDepth 20000 in
theorem cd_X7_last : Cond.code yX7_last cX7_last 1 (some .int) ∈ tbl := tb_in 831 rfl rfl
theorem im_X7_last : Cond.instanceMethod yX7_last ∈ tbl := tb_in 830 (by decide +kernel) (by decide +kernel)
theorem se_X7_last : Cond.selects yX7_last.cls yX7_last yX7_last ∈ tbl := tb_in 33 (by decide +kernel) (by decide +kernel)
theorem pd_X7_last : yX7_last.cls ≠ "java/lang/invoke/MethodHandle" ∧ yX7_last.cls ≠ "java/lang/invoke/VarHandle" ∧ (parseMethodDescriptor yX7_last.desc).map (fun d => d.parameters.length) = some 0 := by decide +kernel
theorem lk_7_126 : LkV 7 126 yX7_last cX7_last 1 0 (some .int) := ⟨tb_in 828 (by decide +kernel) (by decide +kernel), im_X7_last, se_X7_last, ini_7, cd_X7_last, pd_X7_last⟩
set_option maxRecDepth 20000 in
theorem cd_X7_stretches : Cond.code yX7_stretches cX7_stretches 2 (some .int) ∈ tbl := tb_in 835 rfl rfl
theorem im_X7_stretches : Cond.instanceMethod yX7_stretches ∈ tbl := tb_in 833 (by decide +kernel) (by decide +kernel)
theorem se_X7_stretches : Cond.selects yX7_stretches.cls yX7_stretches yX7_stretches ∈ tbl := tb_in 834 (by decide +kernel) (by decide +kernel)
theorem pd_X7_stretches : yX7_stretches.cls ≠ "java/lang/invoke/MethodHandle" ∧ yX7_stretches.cls ≠ "java/lang/invoke/VarHandle" ∧ (parseMethodDescriptor yX7_stretches.desc).map (fun d => d.parameters.length) = some 1 := by decide +kernel
theorem lk_10_39 : LkV 10 39 yX7_stretches cX7_stretches 2 1 (some .int) := ⟨tb_in 832 (by decide +kernel) (by decide +kernel), im_X7_stretches, se_X7_stretches, ini_7, cd_X7_stretches, pd_X7_stretches⟩
set_option maxRecDepth 20000 in
theorem cd_X7_stretch : Cond.code yX7_stretch cX7_stretch 3 (some .boolean) ∈ tbl := tb_in 839 rfl rfl
theorem im_X7_stretch : Cond.instanceMethod yX7_stretch ∈ tbl := tb_in 838 (by decide +kernel) (by decide +kernel)
theorem se_X7_stretch : Cond.selects yX7_stretch.cls yX7_stretch yX7_stretch ∈ tbl := tb_in 34 (by decide +kernel) (by decide +kernel)
theorem pd_X7_stretch : yX7_stretch.cls ≠ "java/lang/invoke/MethodHandle" ∧ yX7_stretch.cls ≠ "java/lang/invoke/VarHandle" ∧ (parseMethodDescriptor yX7_stretch.desc).map (fun d => d.parameters.length) = some 1 := by decide +kernel
theorem lk_7_129 : LkV 7 129 yX7_stretch cX7_stretch 3 1 (some .boolean) := ⟨tb_in 836 (by decide +kernel) (by decide +kernel), im_X7_stretch, se_X7_stretch, ini_7, cd_X7_stretch, pd_X7_stretch⟩
set_option maxRecDepth 20000 in
theorem cd_X7_weighs : Cond.code yX7_weighs cX7_weighs 2 (some .int) ∈ tbl := tb_in 843 rfl rfl
theorem im_X7_weighs : Cond.instanceMethod yX7_weighs ∈ tbl := tb_in 841 (by decide +kernel) (by decide +kernel)
theorem se_X7_weighs : Cond.selects yX7_weighs.cls yX7_weighs yX7_weighs ∈ tbl := tb_in 842 (by decide +kernel) (by decide +kernel)
theorem pd_X7_weighs : yX7_weighs.cls ≠ "java/lang/invoke/MethodHandle" ∧ yX7_weighs.cls ≠ "java/lang/invoke/VarHandle" ∧ (parseMethodDescriptor yX7_weighs.desc).map (fun d => d.parameters.length) = some 1 := by decide +kernel
theorem lk_10_43 : LkV 10 43 yX7_weighs cX7_weighs 2 1 (some .int) := ⟨tb_in 840 (by decide +kernel) (by decide +kernel), im_X7_weighs, se_X7_weighs, ini_7, cd_X7_weighs, pd_X7_weighs⟩
set_option maxRecDepth 20000 in
theorem cd_X7_weigh : Cond.code yX7_weigh cX7_weigh 3 (some .boolean) ∈ tbl := tb_in 847 rfl rfl
theorem im_X7_weigh : Cond.instanceMethod yX7_weigh ∈ tbl := tb_in 846 (by decide +kernel) (by decide +kernel)
theorem se_X7_weigh : Cond.selects yX7_weigh.cls yX7_weigh yX7_weigh ∈ tbl := tb_in 35 (by decide +kernel) (by decide +kernel)
theorem pd_X7_weigh : yX7_weigh.cls ≠ "java/lang/invoke/MethodHandle" ∧ yX7_weigh.cls ≠ "java/lang/invoke/VarHandle" ∧ (parseMethodDescriptor yX7_weigh.desc).map (fun d => d.parameters.length) = some 1 := by decide +kernel
theorem lk_7_132 : LkV 7 132 yX7_weigh cX7_weigh 3 1 (some .boolean) := ⟨tb_in 844 (by decide +kernel) (by decide +kernel), im_X7_weigh, se_X7_weigh, ini_7, cd_X7_weigh, pd_X7_weigh⟩
set_option maxRecDepth 20000 in
theorem cd_X7_of : Cond.code yX7_of cX7_of 2 (some .int) ∈ tbl := tb_in 851 rfl rfl
theorem im_X7_of : Cond.instanceMethod yX7_of ∈ tbl := tb_in 849 (by decide +kernel) (by decide +kernel)
theorem se_X7_of : Cond.selects yX7_of.cls yX7_of yX7_of ∈ tbl := tb_in 850 (by decide +kernel) (by decide +kernel)
theorem pd_X7_of : yX7_of.cls ≠ "java/lang/invoke/MethodHandle" ∧ yX7_of.cls ≠ "java/lang/invoke/VarHandle" ∧ (parseMethodDescriptor yX7_of.desc).map (fun d => d.parameters.length) = some 1 := by decide +kernel
theorem lk_10_47 : LkV 10 47 yX7_of cX7_of 2 1 (some .int) := ⟨tb_in 848 (by decide +kernel) (by decide +kernel), im_X7_of, se_X7_of, ini_7, cd_X7_of, pd_X7_of⟩
set_option maxRecDepth 20000 in
theorem cd_X7_back : Cond.code yX7_back cX7_back 1 (some .int) ∈ tbl := tb_in 855 rfl rfl
theorem im_X7_back : Cond.instanceMethod yX7_back ∈ tbl := tb_in 853 (by decide +kernel) (by decide +kernel)
theorem se_X7_back : Cond.selects yX7_back.cls yX7_back yX7_back ∈ tbl := tb_in 854 (by decide +kernel) (by decide +kernel)
theorem pd_X7_back : yX7_back.cls ≠ "java/lang/invoke/MethodHandle" ∧ yX7_back.cls ≠ "java/lang/invoke/VarHandle" ∧ (parseMethodDescriptor yX7_back.desc).map (fun d => d.parameters.length) = some 0 := by decide +kernel
theorem lk_10_115 : LkV 10 115 yX7_back cX7_back 1 0 (some .int) := ⟨tb_in 852 (by decide +kernel) (by decide +kernel), im_X7_back, se_X7_back, ini_7, cd_X7_back, pd_X7_back⟩
set_option maxRecDepth 20000 in
theorem cd_X7_determinant : Cond.code yX7_determinant cX7_determinant 3 (some .long) ∈ tbl := tb_in 859 rfl rfl
theorem im_X7_determinant : Cond.instanceMethod yX7_determinant ∈ tbl := tb_in 857 (by decide +kernel) (by decide +kernel)
theorem se_X7_determinant : Cond.selects yX7_determinant.cls yX7_determinant yX7_determinant ∈ tbl := tb_in 858 (by decide +kernel) (by decide +kernel)
theorem pd_X7_determinant : yX7_determinant.cls ≠ "java/lang/invoke/MethodHandle" ∧ yX7_determinant.cls ≠ "java/lang/invoke/VarHandle" ∧ (parseMethodDescriptor yX7_determinant.desc).map (fun d => d.parameters.length) = some 2 := by decide +kernel
theorem lk_10_52 : LkV 10 52 yX7_determinant cX7_determinant 3 2 (some .long) := ⟨tb_in 856 (by decide +kernel) (by decide +kernel), im_X7_determinant, se_X7_determinant, ini_7, cd_X7_determinant, pd_X7_determinant⟩
set_option maxRecDepth 20000 in
theorem cd_X7_isThere : Cond.code yX7_isThere cX7_isThere 3 (some .boolean) ∈ tbl := tb_in 865 rfl rfl
theorem im_X7_isThere : Cond.instanceMethod yX7_isThere ∈ tbl := tb_in 864 (by decide +kernel) (by decide +kernel)
theorem se_X7_isThere : Cond.selects yX7_isThere.cls yX7_isThere yX7_isThere ∈ tbl := tb_in 36 (by decide +kernel) (by decide +kernel)
theorem pd_X7_isThere : yX7_isThere.cls ≠ "java/lang/invoke/MethodHandle" ∧ yX7_isThere.cls ≠ "java/lang/invoke/VarHandle" ∧ (parseMethodDescriptor yX7_isThere.desc).map (fun d => d.parameters.length) = some 2 := by decide +kernel
theorem lk_7_143 : LkV 7 143 yX7_isThere cX7_isThere 3 2 (some .boolean) := ⟨tb_in 862 (by decide +kernel) (by decide +kernel), im_X7_isThere, se_X7_isThere, ini_7, cd_X7_isThere, pd_X7_isThere⟩
set_option maxRecDepth 20000 in
theorem cd_X7_detOf : Cond.code yX7_detOf cX7_detOf 5 (some .long) ∈ tbl := tb_in 869 rfl rfl
theorem im_X7_detOf : Cond.instanceMethod yX7_detOf ∈ tbl := tb_in 868 (by decide +kernel) (by decide +kernel)
theorem se_X7_detOf : Cond.selects yX7_detOf.cls yX7_detOf yX7_detOf ∈ tbl := tb_in 37 (by decide +kernel) (by decide +kernel)
theorem pd_X7_detOf : yX7_detOf.cls ≠ "java/lang/invoke/MethodHandle" ∧ yX7_detOf.cls ≠ "java/lang/invoke/VarHandle" ∧ (parseMethodDescriptor yX7_detOf.desc).map (fun d => d.parameters.length) = some 2 := by decide +kernel
theorem lk_7_146 : LkV 7 146 yX7_detOf cX7_detOf 5 2 (some .long) := ⟨tb_in 866 (by decide +kernel) (by decide +kernel), im_X7_detOf, se_X7_detOf, ini_7, cd_X7_detOf, pd_X7_detOf⟩
set_option maxRecDepth 20000 in
theorem cd_X7_clearTable : Cond.code yX7_clearTable cX7_clearTable 11 (some .long) ∈ tbl := tb_in 873 rfl rfl
theorem im_X7_clearTable : Cond.instanceMethod yX7_clearTable ∈ tbl := tb_in 872 (by decide +kernel) (by decide +kernel)
theorem se_X7_clearTable : Cond.selects yX7_clearTable.cls yX7_clearTable yX7_clearTable ∈ tbl := tb_in 38 (by decide +kernel) (by decide +kernel)
theorem pd_X7_clearTable : yX7_clearTable.cls ≠ "java/lang/invoke/MethodHandle" ∧ yX7_clearTable.cls ≠ "java/lang/invoke/VarHandle" ∧ (parseMethodDescriptor yX7_clearTable.desc).map (fun d => d.parameters.length) = some 1 := by decide +kernel
theorem lk_7_135 : LkV 7 135 yX7_clearTable cX7_clearTable 11 1 (some .long) := ⟨tb_in 870 (by decide +kernel) (by decide +kernel), im_X7_clearTable, se_X7_clearTable, ini_7, cd_X7_clearTable, pd_X7_clearTable⟩
set_option maxRecDepth 20000 in
theorem cd_X7_polynomial : Cond.code yX7_polynomial cX7_polynomial 4 (some .long) ∈ tbl := tb_in 877 rfl rfl
theorem im_X7_polynomial : Cond.instanceMethod yX7_polynomial ∈ tbl := tb_in 875 (by decide +kernel) (by decide +kernel)
theorem se_X7_polynomial : Cond.selects yX7_polynomial.cls yX7_polynomial yX7_polynomial ∈ tbl := tb_in 876 (by decide +kernel) (by decide +kernel)
theorem pd_X7_polynomial : yX7_polynomial.cls ≠ "java/lang/invoke/MethodHandle" ∧ yX7_polynomial.cls ≠ "java/lang/invoke/VarHandle" ∧ (parseMethodDescriptor yX7_polynomial.desc).map (fun d => d.parameters.length) = some 3 := by decide +kernel
theorem lk_10_57 : LkV 10 57 yX7_polynomial cX7_polynomial 4 3 (some .long) := ⟨tb_in 874 (by decide +kernel) (by decide +kernel), im_X7_polynomial, se_X7_polynomial, ini_7, cd_X7_polynomial, pd_X7_polynomial⟩
set_option maxRecDepth 20000 in
theorem cd_X7_isPart : Cond.code yX7_isPart cX7_isPart 1 (some .boolean) ∈ tbl := tb_in 881 rfl rfl
theorem sa_X7_isPart : Cond.static yX7_isPart ∈ tbl := tb_in 880 (by decide +kernel) (by decide +kernel)
theorem pd_X7_isPart : yX7_isPart.cls ≠ "java/lang/invoke/MethodHandle" ∧ yX7_isPart.cls ≠ "java/lang/invoke/VarHandle" ∧ (parseMethodDescriptor yX7_isPart.desc).map (fun d => d.parameters.length) = some 1 := by decide +kernel
theorem lk_7_159 : LkS 7 159 yX7_isPart cX7_isPart 1 1 (some .boolean) := ⟨tb_in 879 (by decide +kernel) (by decide +kernel), sa_X7_isPart, ini_7, cd_X7_isPart, pd_X7_isPart⟩
set_option maxRecDepth 20000 in
theorem cd_X7_isPoly : Cond.code yX7_isPoly cX7_isPoly 2 (some .boolean) ∈ tbl := tb_in 885 rfl rfl
theorem im_X7_isPoly : Cond.instanceMethod yX7_isPoly ∈ tbl := tb_in 884 (by decide +kernel) (by decide +kernel)
theorem se_X7_isPoly : Cond.selects yX7_isPoly.cls yX7_isPoly yX7_isPoly ∈ tbl := tb_in 39 (by decide +kernel) (by decide +kernel)
theorem pd_X7_isPoly : yX7_isPoly.cls ≠ "java/lang/invoke/MethodHandle" ∧ yX7_isPoly.cls ≠ "java/lang/invoke/VarHandle" ∧ (parseMethodDescriptor yX7_isPoly.desc).map (fun d => d.parameters.length) = some 1 := by decide +kernel
theorem lk_7_162 : LkV 7 162 yX7_isPoly cX7_isPoly 2 1 (some .boolean) := ⟨tb_in 882 (by decide +kernel) (by decide +kernel), im_X7_isPoly, se_X7_isPoly, ini_7, cd_X7_isPoly, pd_X7_isPoly⟩
set_option maxRecDepth 20000 in
theorem cd_X7_makePoly : Cond.code yX7_makePoly cX7_makePoly 5 none ∈ tbl := tb_in 889 rfl rfl
theorem im_X7_makePoly : Cond.instanceMethod yX7_makePoly ∈ tbl := tb_in 888 (by decide +kernel) (by decide +kernel)
theorem se_X7_makePoly : Cond.selects yX7_makePoly.cls yX7_makePoly yX7_makePoly ∈ tbl := tb_in 40 (by decide +kernel) (by decide +kernel)
theorem pd_X7_makePoly : yX7_makePoly.cls ≠ "java/lang/invoke/MethodHandle" ∧ yX7_makePoly.cls ≠ "java/lang/invoke/VarHandle" ∧ (parseMethodDescriptor yX7_makePoly.desc).map (fun d => d.parameters.length) = some 1 := by decide +kernel
theorem lk_7_165 : LkV 7 165 yX7_makePoly cX7_makePoly 5 1 none := ⟨tb_in 886 (by decide +kernel) (by decide +kernel), im_X7_makePoly, se_X7_makePoly, ini_7, cd_X7_makePoly, pd_X7_makePoly⟩
set_option maxRecDepth 20000 in
theorem cd_X7_part : Cond.code yX7_part cX7_part 7 (some .long) ∈ tbl := tb_in 892 rfl rfl
theorem sa_X7_part : Cond.static yX7_part ∈ tbl := tb_in 891 (by decide +kernel) (by decide +kernel)
theorem pd_X7_part : yX7_part.cls ≠ "java/lang/invoke/MethodHandle" ∧ yX7_part.cls ≠ "java/lang/invoke/VarHandle" ∧ (parseMethodDescriptor yX7_part.desc).map (fun d => d.parameters.length) = some 3 := by decide +kernel
theorem lk_7_168 : LkS 7 168 yX7_part cX7_part 7 3 (some .long) := ⟨tb_in 890 (by decide +kernel) (by decide +kernel), sa_X7_part, ini_7, cd_X7_part, pd_X7_part⟩
set_option maxRecDepth 20000 in
theorem cd_X7_common : Cond.code yX7_common cX7_common 10 (some .long) ∈ tbl := tb_in 895 rfl rfl
theorem sa_X7_common : Cond.static yX7_common ∈ tbl := tb_in 894 (by decide +kernel) (by decide +kernel)
theorem pd_X7_common : yX7_common.cls ≠ "java/lang/invoke/MethodHandle" ∧ yX7_common.cls ≠ "java/lang/invoke/VarHandle" ∧ (parseMethodDescriptor yX7_common.desc).map (fun d => d.parameters.length) = some 2 := by decide +kernel
theorem lk_7_149 : LkS 7 149 yX7_common cX7_common 10 2 (some .long) := ⟨tb_in 893 (by decide +kernel) (by decide +kernel), sa_X7_common, ini_7, cd_X7_common, pd_X7_common⟩
set_option maxRecDepth 20000 in
theorem cd_X7_norm : Cond.code yX7_norm cX7_norm 3 (some .long) ∈ tbl := tb_in 899 rfl rfl
theorem im_X7_norm : Cond.instanceMethod yX7_norm ∈ tbl := tb_in 897 (by decide +kernel) (by decide +kernel)
theorem se_X7_norm : Cond.selects yX7_norm.cls yX7_norm yX7_norm ∈ tbl := tb_in 898 (by decide +kernel) (by decide +kernel)
theorem pd_X7_norm : yX7_norm.cls ≠ "java/lang/invoke/MethodHandle" ∧ yX7_norm.cls ≠ "java/lang/invoke/VarHandle" ∧ (parseMethodDescriptor yX7_norm.desc).map (fun d => d.parameters.length) = some 2 := by decide +kernel
theorem lk_10_61 : LkV 10 61 yX7_norm cX7_norm 3 2 (some .long) := ⟨tb_in 896 (by decide +kernel) (by decide +kernel), im_X7_norm, se_X7_norm, ini_7, cd_X7_norm, pd_X7_norm⟩
set_option maxRecDepth 20000 in
theorem cd_X7_isNorm : Cond.code yX7_isNorm cX7_isNorm 2 (some .boolean) ∈ tbl := tb_in 903 rfl rfl
theorem im_X7_isNorm : Cond.instanceMethod yX7_isNorm ∈ tbl := tb_in 902 (by decide +kernel) (by decide +kernel)
theorem se_X7_isNorm : Cond.selects yX7_isNorm.cls yX7_isNorm yX7_isNorm ∈ tbl := tb_in 41 (by decide +kernel) (by decide +kernel)
theorem pd_X7_isNorm : yX7_isNorm.cls ≠ "java/lang/invoke/MethodHandle" ∧ yX7_isNorm.cls ≠ "java/lang/invoke/VarHandle" ∧ (parseMethodDescriptor yX7_isNorm.desc).map (fun d => d.parameters.length) = some 1 := by decide +kernel
theorem lk_7_172 : LkV 7 172 yX7_isNorm cX7_isNorm 2 1 (some .boolean) := ⟨tb_in 900 (by decide +kernel) (by decide +kernel), im_X7_isNorm, se_X7_isNorm, ini_7, cd_X7_isNorm, pd_X7_isNorm⟩
set_option maxRecDepth 20000 in
theorem cd_X7_rule : Cond.code yX7_rule cX7_rule 10 (some .long) ∈ tbl := tb_in 907 rfl rfl
theorem im_X7_rule : Cond.instanceMethod yX7_rule ∈ tbl := tb_in 905 (by decide +kernel) (by decide +kernel)
theorem se_X7_rule : Cond.selects yX7_rule.cls yX7_rule yX7_rule ∈ tbl := tb_in 906 (by decide +kernel) (by decide +kernel)
theorem pd_X7_rule : yX7_rule.cls ≠ "java/lang/invoke/MethodHandle" ∧ yX7_rule.cls ≠ "java/lang/invoke/VarHandle" ∧ (parseMethodDescriptor yX7_rule.desc).map (fun d => d.parameters.length) = some 3 := by decide +kernel
theorem lk_10_65 : LkV 10 65 yX7_rule cX7_rule 10 3 (some .long) := ⟨tb_in 904 (by decide +kernel) (by decide +kernel), im_X7_rule, se_X7_rule, ini_7, cd_X7_rule, pd_X7_rule⟩
set_option maxRecDepth 20000 in
theorem cd_X7_verdict : Cond.code yX7_verdict cX7_verdict 2 (some .int) ∈ tbl := tb_in 912 rfl rfl
theorem im_X7_verdict : Cond.instanceMethod yX7_verdict ∈ tbl := tb_in 910 (by decide +kernel) (by decide +kernel)
theorem se_X7_verdict : Cond.selects yX7_verdict.cls yX7_verdict yX7_verdict ∈ tbl := tb_in 911 (by decide +kernel) (by decide +kernel)
theorem pd_X7_verdict : yX7_verdict.cls ≠ "java/lang/invoke/MethodHandle" ∧ yX7_verdict.cls ≠ "java/lang/invoke/VarHandle" ∧ (parseMethodDescriptor yX7_verdict.desc).map (fun d => d.parameters.length) = some 1 := by decide +kernel
theorem lk_10_69 : LkV 10 69 yX7_verdict cX7_verdict 2 1 (some .int) := ⟨tb_in 909 (by decide +kernel) (by decide +kernel), im_X7_verdict, se_X7_verdict, ini_7, cd_X7_verdict, pd_X7_verdict⟩
set_option maxRecDepth 20000 in
theorem cd_X7_judge : Cond.code yX7_judge cX7_judge 5 none ∈ tbl := tb_in 916 rfl rfl
theorem im_X7_judge : Cond.instanceMethod yX7_judge ∈ tbl := tb_in 915 (by decide +kernel) (by decide +kernel)
theorem se_X7_judge : Cond.selects yX7_judge.cls yX7_judge yX7_judge ∈ tbl := tb_in 42 (by decide +kernel) (by decide +kernel)
theorem pd_X7_judge : yX7_judge.cls ≠ "java/lang/invoke/MethodHandle" ∧ yX7_judge.cls ≠ "java/lang/invoke/VarHandle" ∧ (parseMethodDescriptor yX7_judge.desc).map (fun d => d.parameters.length) = some 0 := by decide +kernel
theorem lk_7_181 : LkV 7 181 yX7_judge cX7_judge 5 0 none := ⟨tb_in 913 (by decide +kernel) (by decide +kernel), im_X7_judge, se_X7_judge, ini_7, cd_X7_judge, pd_X7_judge⟩
set_option maxRecDepth 20000 in
theorem cd_X7_meanWith : Cond.code yX7_meanWith cX7_meanWith 6 (some .long) ∈ tbl := tb_in 921 rfl rfl
theorem im_X7_meanWith : Cond.instanceMethod yX7_meanWith ∈ tbl := tb_in 920 (by decide +kernel) (by decide +kernel)
theorem se_X7_meanWith : Cond.selects yX7_meanWith.cls yX7_meanWith yX7_meanWith ∈ tbl := tb_in 43 (by decide +kernel) (by decide +kernel)
theorem pd_X7_meanWith : yX7_meanWith.cls ≠ "java/lang/invoke/MethodHandle" ∧ yX7_meanWith.cls ≠ "java/lang/invoke/VarHandle" ∧ (parseMethodDescriptor yX7_meanWith.desc).map (fun d => d.parameters.length) = some 2 := by decide +kernel
theorem lk_7_178 : LkV 7 178 yX7_meanWith cX7_meanWith 6 2 (some .long) := ⟨tb_in 918 (by decide +kernel) (by decide +kernel), im_X7_meanWith, se_X7_meanWith, ini_7, cd_X7_meanWith, pd_X7_meanWith⟩
set_option maxRecDepth 20000 in
theorem cd_X7_value : Cond.code yX7_value cX7_value 7 (some .long) ∈ tbl := tb_in 925 rfl rfl
theorem im_X7_value : Cond.instanceMethod yX7_value ∈ tbl := tb_in 923 (by decide +kernel) (by decide +kernel)
theorem se_X7_value : Cond.selects yX7_value.cls yX7_value yX7_value ∈ tbl := tb_in 924 (by decide +kernel) (by decide +kernel)
theorem pd_X7_value : yX7_value.cls ≠ "java/lang/invoke/MethodHandle" ∧ yX7_value.cls ≠ "java/lang/invoke/VarHandle" ∧ (parseMethodDescriptor yX7_value.desc).map (fun d => d.parameters.length) = some 4 := by decide +kernel
theorem lk_10_74 : LkV 10 74 yX7_value cX7_value 7 4 (some .long) := ⟨tb_in 922 (by decide +kernel) (by decide +kernel), im_X7_value, se_X7_value, ini_7, cd_X7_value, pd_X7_value⟩
set_option maxRecDepth 20000 in
theorem cd_X7_isSpot : Cond.code yX7_isSpot cX7_isSpot 2 (some .boolean) ∈ tbl := tb_in 928 rfl rfl
theorem sa_X7_isSpot : Cond.static yX7_isSpot ∈ tbl := tb_in 927 (by decide +kernel) (by decide +kernel)
theorem pd_X7_isSpot : yX7_isSpot.cls ≠ "java/lang/invoke/MethodHandle" ∧ yX7_isSpot.cls ≠ "java/lang/invoke/VarHandle" ∧ (parseMethodDescriptor yX7_isSpot.desc).map (fun d => d.parameters.length) = some 2 := by decide +kernel
theorem lk_7_184 : LkS 7 184 yX7_isSpot cX7_isSpot 2 2 (some .boolean) := ⟨tb_in 926 (by decide +kernel) (by decide +kernel), sa_X7_isSpot, ini_7, cd_X7_isSpot, pd_X7_isSpot⟩
set_option maxRecDepth 20000 in
theorem cd_X7_polyAt : Cond.code yX7_polyAt cX7_polyAt 7 (some .long) ∈ tbl := tb_in 932 rfl rfl
theorem im_X7_polyAt : Cond.instanceMethod yX7_polyAt ∈ tbl := tb_in 931 (by decide +kernel) (by decide +kernel)
theorem se_X7_polyAt : Cond.selects yX7_polyAt.cls yX7_polyAt yX7_polyAt ∈ tbl := tb_in 44 (by decide +kernel) (by decide +kernel)
theorem pd_X7_polyAt : yX7_polyAt.cls ≠ "java/lang/invoke/MethodHandle" ∧ yX7_polyAt.cls ≠ "java/lang/invoke/VarHandle" ∧ (parseMethodDescriptor yX7_polyAt.desc).map (fun d => d.parameters.length) = some 3 := by decide +kernel
theorem lk_7_187 : LkV 7 187 yX7_polyAt cX7_polyAt 7 3 (some .long) := ⟨tb_in 929 (by decide +kernel) (by decide +kernel), im_X7_polyAt, se_X7_polyAt, ini_7, cd_X7_polyAt, pd_X7_polyAt⟩
set_option maxRecDepth 20000 in
theorem cd_X7_under : Cond.code yX7_under cX7_under 4 (some .int) ∈ tbl := tb_in 936 rfl rfl
theorem im_X7_under : Cond.instanceMethod yX7_under ∈ tbl := tb_in 934 (by decide +kernel) (by decide +kernel)
theorem se_X7_under : Cond.selects yX7_under.cls yX7_under yX7_under ∈ tbl := tb_in 935 (by decide +kernel) (by decide +kernel)
theorem pd_X7_under : yX7_under.cls ≠ "java/lang/invoke/MethodHandle" ∧ yX7_under.cls ≠ "java/lang/invoke/VarHandle" ∧ (parseMethodDescriptor yX7_under.desc).map (fun d => d.parameters.length) = some 3 := by decide +kernel
theorem lk_10_79 : LkV 10 79 yX7_under cX7_under 4 3 (some .int) := ⟨tb_in 933 (by decide +kernel) (by decide +kernel), im_X7_under, se_X7_under, ini_7, cd_X7_under, pd_X7_under⟩
set_option maxRecDepth 20000 in
theorem cd_X7_isPositive : Cond.code yX7_isPositive cX7_isPositive 4 (some .boolean) ∈ tbl := tb_in 940 rfl rfl
theorem im_X7_isPositive : Cond.instanceMethod yX7_isPositive ∈ tbl := tb_in 939 (by decide +kernel) (by decide +kernel)
theorem se_X7_isPositive : Cond.selects yX7_isPositive.cls yX7_isPositive yX7_isPositive ∈ tbl := tb_in 45 (by decide +kernel) (by decide +kernel)
theorem pd_X7_isPositive : yX7_isPositive.cls ≠ "java/lang/invoke/MethodHandle" ∧ yX7_isPositive.cls ≠ "java/lang/invoke/VarHandle" ∧ (parseMethodDescriptor yX7_isPositive.desc).map (fun d => d.parameters.length) = some 1 := by decide +kernel
theorem lk_7_191 : LkV 7 191 yX7_isPositive cX7_isPositive 4 1 (some .boolean) := ⟨tb_in 937 (by decide +kernel) (by decide +kernel), im_X7_isPositive, se_X7_isPositive, ini_7, cd_X7_isPositive, pd_X7_isPositive⟩
set_option maxRecDepth 20000 in
theorem cd_X7_belowSpot : Cond.code yX7_belowSpot cX7_belowSpot 11 (some .int) ∈ tbl := tb_in 944 rfl rfl
theorem im_X7_belowSpot : Cond.instanceMethod yX7_belowSpot ∈ tbl := tb_in 943 (by decide +kernel) (by decide +kernel)
theorem se_X7_belowSpot : Cond.selects yX7_belowSpot.cls yX7_belowSpot yX7_belowSpot ∈ tbl := tb_in 46 (by decide +kernel) (by decide +kernel)
theorem pd_X7_belowSpot : yX7_belowSpot.cls ≠ "java/lang/invoke/MethodHandle" ∧ yX7_belowSpot.cls ≠ "java/lang/invoke/VarHandle" ∧ (parseMethodDescriptor yX7_belowSpot.desc).map (fun d => d.parameters.length) = some 3 := by decide +kernel
theorem lk_7_194 : LkV 7 194 yX7_belowSpot cX7_belowSpot 11 3 (some .int) := ⟨tb_in 941 (by decide +kernel) (by decide +kernel), im_X7_belowSpot, se_X7_belowSpot, ini_7, cd_X7_belowSpot, pd_X7_belowSpot⟩
set_option maxRecDepth 20000 in
theorem cd_X7_zero : Cond.code yX7_zero cX7_zero 7 (some .int) ∈ tbl := tb_in 948 rfl rfl
theorem im_X7_zero : Cond.instanceMethod yX7_zero ∈ tbl := tb_in 946 (by decide +kernel) (by decide +kernel)
theorem se_X7_zero : Cond.selects yX7_zero.cls yX7_zero yX7_zero ∈ tbl := tb_in 947 (by decide +kernel) (by decide +kernel)
theorem pd_X7_zero : yX7_zero.cls ≠ "java/lang/invoke/MethodHandle" ∧ yX7_zero.cls ≠ "java/lang/invoke/VarHandle" ∧ (parseMethodDescriptor yX7_zero.desc).map (fun d => d.parameters.length) = some 3 := by decide +kernel
theorem lk_10_83 : LkV 10 83 yX7_zero cX7_zero 7 3 (some .int) := ⟨tb_in 945 (by decide +kernel) (by decide +kernel), im_X7_zero, se_X7_zero, ini_7, cd_X7_zero, pd_X7_zero⟩
set_option maxRecDepth 20000 in
theorem cd_X7_weight : Cond.code yX7_weight cX7_weight 9 (some .long) ∈ tbl := tb_in 952 rfl rfl
theorem im_X7_weight : Cond.instanceMethod yX7_weight ∈ tbl := tb_in 950 (by decide +kernel) (by decide +kernel)
theorem se_X7_weight : Cond.selects yX7_weight.cls yX7_weight yX7_weight ∈ tbl := tb_in 951 (by decide +kernel) (by decide +kernel)
theorem pd_X7_weight : yX7_weight.cls ≠ "java/lang/invoke/MethodHandle" ∧ yX7_weight.cls ≠ "java/lang/invoke/VarHandle" ∧ (parseMethodDescriptor yX7_weight.desc).map (fun d => d.parameters.length) = some 3 := by decide +kernel
theorem lk_10_87 : LkV 10 87 yX7_weight cX7_weight 9 3 (some .long) := ⟨tb_in 949 (by decide +kernel) (by decide +kernel), im_X7_weight, se_X7_weight, ini_7, cd_X7_weight, pd_X7_weight⟩
set_option maxRecDepth 20000 in
theorem cd_X7_isSet : Cond.code yX7_isSet cX7_isSet 1 (some .boolean) ∈ tbl := tb_in 955 rfl rfl
theorem sa_X7_isSet : Cond.static yX7_isSet ∈ tbl := tb_in 954 (by decide +kernel) (by decide +kernel)
theorem pd_X7_isSet : yX7_isSet.cls ≠ "java/lang/invoke/MethodHandle" ∧ yX7_isSet.cls ≠ "java/lang/invoke/VarHandle" ∧ (parseMethodDescriptor yX7_isSet.desc).map (fun d => d.parameters.length) = some 1 := by decide +kernel
theorem lk_7_207 : LkS 7 207 yX7_isSet cX7_isSet 1 1 (some .boolean) := ⟨tb_in 953 (by decide +kernel) (by decide +kernel), sa_X7_isSet, ini_7, cd_X7_isSet, pd_X7_isSet⟩
set_option maxRecDepth 20000 in
theorem cd_X7_size : Cond.code yX7_size cX7_size 3 (some .int) ∈ tbl := tb_in 959 rfl rfl
theorem sa_X7_size : Cond.static yX7_size ∈ tbl := tb_in 958 (by decide +kernel) (by decide +kernel)
theorem pd_X7_size : yX7_size.cls ≠ "java/lang/invoke/MethodHandle" ∧ yX7_size.cls ≠ "java/lang/invoke/VarHandle" ∧ (parseMethodDescriptor yX7_size.desc).map (fun d => d.parameters.length) = some 1 := by decide +kernel
theorem lk_7_200 : LkS 7 200 yX7_size cX7_size 3 1 (some .int) := ⟨tb_in 957 (by decide +kernel) (by decide +kernel), sa_X7_size, ini_7, cd_X7_size, pd_X7_size⟩
set_option maxRecDepth 20000 in
theorem cd_X7_makeProduct : Cond.code yX7_makeProduct cX7_makeProduct 5 none ∈ tbl := tb_in 963 rfl rfl
theorem im_X7_makeProduct : Cond.instanceMethod yX7_makeProduct ∈ tbl := tb_in 962 (by decide +kernel) (by decide +kernel)
theorem se_X7_makeProduct : Cond.selects yX7_makeProduct.cls yX7_makeProduct yX7_makeProduct ∈ tbl := tb_in 47 (by decide +kernel) (by decide +kernel)
theorem pd_X7_makeProduct : yX7_makeProduct.cls ≠ "java/lang/invoke/MethodHandle" ∧ yX7_makeProduct.cls ≠ "java/lang/invoke/VarHandle" ∧ (parseMethodDescriptor yX7_makeProduct.desc).map (fun d => d.parameters.length) = some 2 := by decide +kernel
theorem lk_7_210 : LkV 7 210 yX7_makeProduct cX7_makeProduct 5 2 none := ⟨tb_in 960 (by decide +kernel) (by decide +kernel), im_X7_makeProduct, se_X7_makeProduct, ini_7, cd_X7_makeProduct, pd_X7_makeProduct⟩
set_option maxRecDepth 20000 in
theorem cd_X7_exact : Cond.code yX7_exact cX7_exact 9 (some .int) ∈ tbl := tb_in 967 rfl rfl
theorem im_X7_exact : Cond.instanceMethod yX7_exact ∈ tbl := tb_in 965 (by decide +kernel) (by decide +kernel)
theorem se_X7_exact : Cond.selects yX7_exact.cls yX7_exact yX7_exact ∈ tbl := tb_in 966 (by decide +kernel) (by decide +kernel)
theorem pd_X7_exact : yX7_exact.cls ≠ "java/lang/invoke/MethodHandle" ∧ yX7_exact.cls ≠ "java/lang/invoke/VarHandle" ∧ (parseMethodDescriptor yX7_exact.desc).map (fun d => d.parameters.length) = some 1 := by decide +kernel
theorem lk_10_91 : LkV 10 91 yX7_exact cX7_exact 9 1 (some .int) := ⟨tb_in 964 (by decide +kernel) (by decide +kernel), im_X7_exact, se_X7_exact, ini_7, cd_X7_exact, pd_X7_exact⟩
set_option maxRecDepth 20000 in
theorem cd_X7_fraction : Cond.code yX7_fraction cX7_fraction 11 (some .long) ∈ tbl := tb_in 971 rfl rfl
theorem im_X7_fraction : Cond.instanceMethod yX7_fraction ∈ tbl := tb_in 969 (by decide +kernel) (by decide +kernel)
theorem se_X7_fraction : Cond.selects yX7_fraction.cls yX7_fraction yX7_fraction ∈ tbl := tb_in 970 (by decide +kernel) (by decide +kernel)
theorem pd_X7_fraction : yX7_fraction.cls ≠ "java/lang/invoke/MethodHandle" ∧ yX7_fraction.cls ≠ "java/lang/invoke/VarHandle" ∧ (parseMethodDescriptor yX7_fraction.desc).map (fun d => d.parameters.length) = some 4 := by decide +kernel
theorem lk_10_95 : LkV 10 95 yX7_fraction cX7_fraction 11 4 (some .long) := ⟨tb_in 968 (by decide +kernel) (by decide +kernel), im_X7_fraction, se_X7_fraction, ini_7, cd_X7_fraction, pd_X7_fraction⟩
set_option maxRecDepth 20000 in
theorem cd_X7_step : Cond.code yX7_step cX7_step 10 (some .long) ∈ tbl := tb_in 977 rfl rfl
theorem im_X7_step : Cond.instanceMethod yX7_step ∈ tbl := tb_in 975 (by decide +kernel) (by decide +kernel)
theorem se_X7_step : Cond.selects yX7_step.cls yX7_step yX7_step ∈ tbl := tb_in 976 (by decide +kernel) (by decide +kernel)
theorem pd_X7_step : yX7_step.cls ≠ "java/lang/invoke/MethodHandle" ∧ yX7_step.cls ≠ "java/lang/invoke/VarHandle" ∧ (parseMethodDescriptor yX7_step.desc).map (fun d => d.parameters.length) = some 2 := by decide +kernel
theorem lk_10_99 : LkV 10 99 yX7_step cX7_step 10 2 (some .long) := ⟨tb_in 974 (by decide +kernel) (by decide +kernel), im_X7_step, se_X7_step, ini_7, cd_X7_step, pd_X7_step⟩
set_option maxRecDepth 20000 in
theorem cd_X7_type : Cond.code yX7_type cX7_type 2 (some .int) ∈ tbl := tb_in 981 rfl rfl
theorem im_X7_type : Cond.instanceMethod yX7_type ∈ tbl := tb_in 979 (by decide +kernel) (by decide +kernel)
theorem se_X7_type : Cond.selects yX7_type.cls yX7_type yX7_type ∈ tbl := tb_in 980 (by decide +kernel) (by decide +kernel)
theorem pd_X7_type : yX7_type.cls ≠ "java/lang/invoke/MethodHandle" ∧ yX7_type.cls ≠ "java/lang/invoke/VarHandle" ∧ (parseMethodDescriptor yX7_type.desc).map (fun d => d.parameters.length) = some 1 := by decide +kernel
theorem lk_10_103 : LkV 10 103 yX7_type cX7_type 2 1 (some .int) := ⟨tb_in 978 (by decide +kernel) (by decide +kernel), im_X7_type, se_X7_type, ini_7, cd_X7_type, pd_X7_type⟩
set_option maxRecDepth 20000 in
theorem cd_X7_clear : Cond.code yX7_clear cX7_clear 2 (some .int) ∈ tbl := tb_in 986 rfl rfl
theorem im_X7_clear : Cond.instanceMethod yX7_clear ∈ tbl := tb_in 984 (by decide +kernel) (by decide +kernel)
theorem se_X7_clear : Cond.selects yX7_clear.cls yX7_clear yX7_clear ∈ tbl := tb_in 985 (by decide +kernel) (by decide +kernel)
theorem pd_X7_clear : yX7_clear.cls ≠ "java/lang/invoke/MethodHandle" ∧ yX7_clear.cls ≠ "java/lang/invoke/VarHandle" ∧ (parseMethodDescriptor yX7_clear.desc).map (fun d => d.parameters.length) = some 0 := by decide +kernel
theorem lk_10_107 : LkV 10 107 yX7_clear cX7_clear 2 0 (some .int) := ⟨tb_in 983 (by decide +kernel) (by decide +kernel), im_X7_clear, se_X7_clear, ini_7, cd_X7_clear, pd_X7_clear⟩
set_option maxRecDepth 20000 in
theorem cd_X7_reads : Cond.code yX7_reads cX7_reads 3 (some .int) ∈ tbl := tb_in 990 rfl rfl
theorem im_X7_reads : Cond.instanceMethod yX7_reads ∈ tbl := tb_in 988 (by decide +kernel) (by decide +kernel)
theorem se_X7_reads : Cond.selects yX7_reads.cls yX7_reads yX7_reads ∈ tbl := tb_in 989 (by decide +kernel) (by decide +kernel)
theorem pd_X7_reads : yX7_reads.cls ≠ "java/lang/invoke/MethodHandle" ∧ yX7_reads.cls ≠ "java/lang/invoke/VarHandle" ∧ (parseMethodDescriptor yX7_reads.desc).map (fun d => d.parameters.length) = some 0 := by decide +kernel
theorem lk_10_111 : LkV 10 111 yX7_reads cX7_reads 3 0 (some .int) := ⟨tb_in 987 (by decide +kernel) (by decide +kernel), im_X7_reads, se_X7_reads, ini_7, cd_X7_reads, pd_X7_reads⟩
set_option maxRecDepth 20000 in
theorem cd_X7_readText : Cond.code yX7_readText cX7_readText 2 (some .int) ∈ tbl := tb_in 994 rfl rfl
theorem im_X7_readText : Cond.instanceMethod yX7_readText ∈ tbl := tb_in 993 (by decide +kernel) (by decide +kernel)
theorem se_X7_readText : Cond.selects yX7_readText.cls yX7_readText yX7_readText ∈ tbl := tb_in 48 (by decide +kernel) (by decide +kernel)
theorem pd_X7_readText : yX7_readText.cls ≠ "java/lang/invoke/MethodHandle" ∧ yX7_readText.cls ≠ "java/lang/invoke/VarHandle" ∧ (parseMethodDescriptor yX7_readText.desc).map (fun d => d.parameters.length) = some 0 := by decide +kernel
theorem lk_7_268 : LkV 7 268 yX7_readText cX7_readText 2 0 (some .int) := ⟨tb_in 991 (by decide +kernel) (by decide +kernel), im_X7_readText, se_X7_readText, ini_7, cd_X7_readText, pd_X7_readText⟩
set_option maxRecDepth 20000 in
theorem cd_X7_readByte : Cond.code yX7_readByte cX7_readByte 4 (some .boolean) ∈ tbl := tb_in 998 rfl rfl
theorem im_X7_readByte : Cond.instanceMethod yX7_readByte ∈ tbl := tb_in 997 (by decide +kernel) (by decide +kernel)
theorem se_X7_readByte : Cond.selects yX7_readByte.cls yX7_readByte yX7_readByte ∈ tbl := tb_in 49 (by decide +kernel) (by decide +kernel)
theorem pd_X7_readByte : yX7_readByte.cls ≠ "java/lang/invoke/MethodHandle" ∧ yX7_readByte.cls ≠ "java/lang/invoke/VarHandle" ∧ (parseMethodDescriptor yX7_readByte.desc).map (fun d => d.parameters.length) = some 1 := by decide +kernel
theorem lk_7_262 : LkV 7 262 yX7_readByte cX7_readByte 4 1 (some .boolean) := ⟨tb_in 995 (by decide +kernel) (by decide +kernel), im_X7_readByte, se_X7_readByte, ini_7, cd_X7_readByte, pd_X7_readByte⟩
set_option maxRecDepth 20000 in
theorem cd_X7_isLetter : Cond.code yX7_isLetter cX7_isLetter 1 (some .boolean) ∈ tbl := tb_in 1001 rfl rfl
theorem sa_X7_isLetter : Cond.static yX7_isLetter ∈ tbl := tb_in 1000 (by decide +kernel) (by decide +kernel)
theorem pd_X7_isLetter : yX7_isLetter.cls ≠ "java/lang/invoke/MethodHandle" ∧ yX7_isLetter.cls ≠ "java/lang/invoke/VarHandle" ∧ (parseMethodDescriptor yX7_isLetter.desc).map (fun d => d.parameters.length) = some 1 := by decide +kernel
theorem lk_7_245 : LkS 7 245 yX7_isLetter cX7_isLetter 1 1 (some .boolean) := ⟨tb_in 999 (by decide +kernel) (by decide +kernel), sa_X7_isLetter, ini_7, cd_X7_isLetter, pd_X7_isLetter⟩
set_option maxRecDepth 20000 in
theorem cd_X7_beginNumber : Cond.code yX7_beginNumber cX7_beginNumber 2 (some .boolean) ∈ tbl := tb_in 1007 rfl rfl
theorem im_X7_beginNumber : Cond.instanceMethod yX7_beginNumber ∈ tbl := tb_in 1006 (by decide +kernel) (by decide +kernel)
theorem se_X7_beginNumber : Cond.selects yX7_beginNumber.cls yX7_beginNumber yX7_beginNumber ∈ tbl := tb_in 50 (by decide +kernel) (by decide +kernel)
theorem pd_X7_beginNumber : yX7_beginNumber.cls ≠ "java/lang/invoke/MethodHandle" ∧ yX7_beginNumber.cls ≠ "java/lang/invoke/VarHandle" ∧ (parseMethodDescriptor yX7_beginNumber.desc).map (fun d => d.parameters.length) = some 1 := by decide +kernel
theorem lk_7_255 : LkV 7 255 yX7_beginNumber cX7_beginNumber 2 1 (some .boolean) := ⟨tb_in 1004 (by decide +kernel) (by decide +kernel), im_X7_beginNumber, se_X7_beginNumber, ini_7, cd_X7_beginNumber, pd_X7_beginNumber⟩
set_option maxRecDepth 20000 in
theorem cd_X7_mostNumbers : Cond.code yX7_mostNumbers cX7_mostNumbers 1 (some .int) ∈ tbl := tb_in 1010 rfl rfl
theorem sa_X7_mostNumbers : Cond.static yX7_mostNumbers ∈ tbl := tb_in 1009 (by decide +kernel) (by decide +kernel)
theorem pd_X7_mostNumbers : yX7_mostNumbers.cls ≠ "java/lang/invoke/MethodHandle" ∧ yX7_mostNumbers.cls ≠ "java/lang/invoke/VarHandle" ∧ (parseMethodDescriptor yX7_mostNumbers.desc).map (fun d => d.parameters.length) = some 1 := by decide +kernel
theorem lk_7_223 : LkS 7 223 yX7_mostNumbers cX7_mostNumbers 1 1 (some .int) := ⟨tb_in 1008 (by decide +kernel) (by decide +kernel), sa_X7_mostNumbers, ini_7, cd_X7_mostNumbers, pd_X7_mostNumbers⟩
set_option maxRecDepth 20000 in
theorem cd_X7_leastNumbers : Cond.code yX7_leastNumbers cX7_leastNumbers 1 (some .int) ∈ tbl := tb_in 1013 rfl rfl
theorem sa_X7_leastNumbers : Cond.static yX7_leastNumbers ∈ tbl := tb_in 1012 (by decide +kernel) (by decide +kernel)
theorem pd_X7_leastNumbers : yX7_leastNumbers.cls ≠ "java/lang/invoke/MethodHandle" ∧ yX7_leastNumbers.cls ≠ "java/lang/invoke/VarHandle" ∧ (parseMethodDescriptor yX7_leastNumbers.desc).map (fun d => d.parameters.length) = some 1 := by decide +kernel
theorem lk_7_259 : LkS 7 259 yX7_leastNumbers cX7_leastNumbers 1 1 (some .int) := ⟨tb_in 1011 (by decide +kernel) (by decide +kernel), sa_X7_leastNumbers, ini_7, cd_X7_leastNumbers, pd_X7_leastNumbers⟩
set_option maxRecDepth 20000 in
theorem cd_X7_doOrder : Cond.code yX7_doOrder cX7_doOrder 7 (some .boolean) ∈ tbl := tb_in 1017 rfl rfl
theorem im_X7_doOrder : Cond.instanceMethod yX7_doOrder ∈ tbl := tb_in 1016 (by decide +kernel) (by decide +kernel)
theorem se_X7_doOrder : Cond.selects yX7_doOrder.cls yX7_doOrder yX7_doOrder ∈ tbl := tb_in 51 (by decide +kernel) (by decide +kernel)
theorem pd_X7_doOrder : yX7_doOrder.cls ≠ "java/lang/invoke/MethodHandle" ∧ yX7_doOrder.cls ≠ "java/lang/invoke/VarHandle" ∧ (parseMethodDescriptor yX7_doOrder.desc).map (fun d => d.parameters.length) = some 1 := by decide +kernel
theorem lk_7_271 : LkV 7 271 yX7_doOrder cX7_doOrder 7 1 (some .boolean) := ⟨tb_in 1014 (by decide +kernel) (by decide +kernel), im_X7_doOrder, se_X7_doOrder, ini_7, cd_X7_doOrder, pd_X7_doOrder⟩
set_option maxRecDepth 20000 in
theorem cd_X7_becomeRow : Cond.code yX7_becomeRow cX7_becomeRow 4 (some .boolean) ∈ tbl := tb_in 1021 rfl rfl
theorem im_X7_becomeRow : Cond.instanceMethod yX7_becomeRow ∈ tbl := tb_in 1020 (by decide +kernel) (by decide +kernel)
theorem se_X7_becomeRow : Cond.selects yX7_becomeRow.cls yX7_becomeRow yX7_becomeRow ∈ tbl := tb_in 52 (by decide +kernel) (by decide +kernel)
theorem pd_X7_becomeRow : yX7_becomeRow.cls ≠ "java/lang/invoke/MethodHandle" ∧ yX7_becomeRow.cls ≠ "java/lang/invoke/VarHandle" ∧ (parseMethodDescriptor yX7_becomeRow.desc).map (fun d => d.parameters.length) = some 2 := by decide +kernel
theorem lk_7_265 : LkV 7 265 yX7_becomeRow cX7_becomeRow 4 2 (some .boolean) := ⟨tb_in 1018 (by decide +kernel) (by decide +kernel), im_X7_becomeRow, se_X7_becomeRow, ini_7, cd_X7_becomeRow, pd_X7_becomeRow⟩
set_option maxRecDepth 20000 in
theorem cd_X7_told : Cond.code yX7_told cX7_told 2 (some .int) ∈ tbl := tb_in 1025 rfl rfl
theorem im_X7_told : Cond.instanceMethod yX7_told ∈ tbl := tb_in 1023 (by decide +kernel) (by decide +kernel)
theorem se_X7_told : Cond.selects yX7_told.cls yX7_told yX7_told ∈ tbl := tb_in 1024 (by decide +kernel) (by decide +kernel)
theorem pd_X7_told : yX7_told.cls ≠ "java/lang/invoke/MethodHandle" ∧ yX7_told.cls ≠ "java/lang/invoke/VarHandle" ∧ (parseMethodDescriptor yX7_told.desc).map (fun d => d.parameters.length) = some 1 := by decide +kernel
theorem lk_10_119 : LkV 10 119 yX7_told cX7_told 2 1 (some .int) := ⟨tb_in 1022 (by decide +kernel) (by decide +kernel), im_X7_told, se_X7_told, ini_7, cd_X7_told, pd_X7_told⟩
set_option maxRecDepth 20000 in
theorem cd_X7_toldOf : Cond.code yX7_toldOf cX7_toldOf 2 (some .int) ∈ tbl := tb_in 1030 rfl rfl
theorem im_X7_toldOf : Cond.instanceMethod yX7_toldOf ∈ tbl := tb_in 1029 (by decide +kernel) (by decide +kernel)
theorem se_X7_toldOf : Cond.selects yX7_toldOf.cls yX7_toldOf yX7_toldOf ∈ tbl := tb_in 53 (by decide +kernel) (by decide +kernel)
theorem pd_X7_toldOf : yX7_toldOf.cls ≠ "java/lang/invoke/MethodHandle" ∧ yX7_toldOf.cls ≠ "java/lang/invoke/VarHandle" ∧ (parseMethodDescriptor yX7_toldOf.desc).map (fun d => d.parameters.length) = some 1 := by decide +kernel
theorem lk_7_276 : LkV 7 276 yX7_toldOf cX7_toldOf 2 1 (some .int) := ⟨tb_in 1027 (by decide +kernel) (by decide +kernel), im_X7_toldOf, se_X7_toldOf, ini_7, cd_X7_toldOf, pd_X7_toldOf⟩
set_option maxRecDepth 20000 in
theorem cd_X7_digest : Cond.code yX7_digest cX7_digest 6 (some .long) ∈ tbl := tb_in 1034 rfl rfl
theorem im_X7_digest : Cond.instanceMethod yX7_digest ∈ tbl := tb_in 1032 (by decide +kernel) (by decide +kernel)
theorem se_X7_digest : Cond.selects yX7_digest.cls yX7_digest yX7_digest ∈ tbl := tb_in 1033 (by decide +kernel) (by decide +kernel)
theorem pd_X7_digest : yX7_digest.cls ≠ "java/lang/invoke/MethodHandle" ∧ yX7_digest.cls ≠ "java/lang/invoke/VarHandle" ∧ (parseMethodDescriptor yX7_digest.desc).map (fun d => d.parameters.length) = some 0 := by decide +kernel
theorem lk_10_124 : LkV 10 124 yX7_digest cX7_digest 6 0 (some .long) := ⟨tb_in 1031 (by decide +kernel) (by decide +kernel), im_X7_digest, se_X7_digest, ini_7, cd_X7_digest, pd_X7_digest⟩
theorem co_3_53 : Cond.constant (ownN 3) 53 (-1000001) ∈ tbl := tb_in 250 (by decide +kernel) (by decide +kernel)
theorem co_6_105 : Cond.constant (ownN 6) 105 (-1000001) ∈ tbl := tb_in 255 (by decide +kernel) (by decide +kernel)
theorem co_6_110 : Cond.constant (ownN 6) 110 (-1000002) ∈ tbl := tb_in 256 (by decide +kernel) (by decide +kernel)
theorem co_3_54 : Cond.constant (ownN 3) 54 (-1000003) ∈ tbl := tb_in 281 (by decide +kernel) (by decide +kernel)
theorem co_3_55 : Cond.constant (ownN 3) 55 (-1000002) ∈ tbl := tb_in 291 (by decide +kernel) (by decide +kernel)
theorem co_3_77 : Cond.constantLong (ownN 3) 77 (-500) ∈ tbl := tb_in 307 (by decide +kernel) (by decide +kernel)
theorem co_3_79 : Cond.constantLong (ownN 3) 79 (500) ∈ tbl := tb_in 308 (by decide +kernel) (by decide +kernel)
theorem co_8_265 : Cond.constant (ownN 8) 265 (1431655765) ∈ tbl := tb_in 379 (by decide +kernel) (by decide +kernel)
theorem co_8_266 : Cond.constant (ownN 8) 266 (858993459) ∈ tbl := tb_in 380 (by decide +kernel) (by decide +kernel)
theorem co_8_267 : Cond.constant (ownN 8) 267 (252645135) ∈ tbl := tb_in 381 (by decide +kernel) (by decide +kernel)
theorem co_6_235 : Cond.constant (ownN 6) 235 (-1000000) ∈ tbl := tb_in 438 (by decide +kernel) (by decide +kernel)
theorem co_6_247 : Cond.constant (ownN 6) 247 (524287) ∈ tbl := tb_in 497 (by decide +kernel) (by decide +kernel)
theorem co_6_185 : Cond.constant (ownN 6) 185 (-1000003) ∈ tbl := tb_in 539 (by decide +kernel) (by decide +kernel)
theorem co_2_88 : Cond.constant (ownN 2) 88 (-1000001) ∈ tbl := tb_in 608 (by decide +kernel) (by decide +kernel)
theorem co_6_212 : Cond.constantLong (ownN 6) 212 (2357) ∈ tbl := tb_in 656 (by decide +kernel) (by decide +kernel)
theorem co_6_214 : Cond.constantLong (ownN 6) 214 (31) ∈ tbl := tb_in 657 (by decide +kernel) (by decide +kernel)
theorem co_7_68 : Cond.constantLong (ownN 7) 68 (-500) ∈ tbl := tb_in 751 (by decide +kernel) (by decide +kernel)
theorem co_7_70 : Cond.constantLong (ownN 7) 70 (500) ∈ tbl := tb_in 752 (by decide +kernel) (by decide +kernel)
theorem co_7_53 : Cond.constant (ownN 7) 53 (-1000001) ∈ tbl := tb_in 757 (by decide +kernel) (by decide +kernel)
theorem co_7_55 : Cond.constant (ownN 7) 55 (-1000003) ∈ tbl := tb_in 774 (by decide +kernel) (by decide +kernel)
theorem co_7_54 : Cond.constant (ownN 7) 54 (-1000002) ∈ tbl := tb_in 787 (by decide +kernel) (by decide +kernel)
theorem co_7_105 : Cond.constantLong (ownN 7) 105 (-9) ∈ tbl := tb_in 799 (by decide +kernel) (by decide +kernel)
theorem co_7_107 : Cond.constantLong (ownN 7) 107 (9) ∈ tbl := tb_in 800 (by decide +kernel) (by decide +kernel)
theorem co_7_109 : Cond.constantLong (ownN 7) 109 (-99) ∈ tbl := tb_in 804 (by decide +kernel) (by decide +kernel)
theorem co_7_111 : Cond.constantLong (ownN 7) 111 (99) ∈ tbl := tb_in 805 (by decide +kernel) (by decide +kernel)
theorem co_7_139 : Cond.constantLong (ownN 7) 139 (6) ∈ tbl := tb_in 860 (by decide +kernel) (by decide +kernel)
theorem co_7_141 : Cond.constantLong (ownN 7) 141 (4) ∈ tbl := tb_in 861 (by decide +kernel) (by decide +kernel)
theorem co_7_157 : Cond.constantLong (ownN 7) 157 (3) ∈ tbl := tb_in 878 (by decide +kernel) (by decide +kernel)
theorem co_7_175 : Cond.constantLong (ownN 7) 175 (2) ∈ tbl := tb_in 908 (by decide +kernel) (by decide +kernel)
theorem co_7_177 : Cond.constant (ownN 7) 177 (-1000000) ∈ tbl := tb_in 917 (by decide +kernel) (by decide +kernel)
theorem co_7_198 : Cond.constantLong (ownN 7) 198 (524287) ∈ tbl := tb_in 956 (by decide +kernel) (by decide +kernel)
theorem co_7_214 : Cond.constantLong (ownN 7) 214 (-20) ∈ tbl := tb_in 972 (by decide +kernel) (by decide +kernel)
theorem co_7_216 : Cond.constantLong (ownN 7) 216 (20) ∈ tbl := tb_in 973 (by decide +kernel) (by decide +kernel)
theorem co_7_218 : Cond.constantLong (ownN 7) 218 (127) ∈ tbl := tb_in 982 (by decide +kernel) (by decide +kernel)
theorem co_7_248 : Cond.constantLong (ownN 7) 248 (48) ∈ tbl := tb_in 1002 (by decide +kernel) (by decide +kernel)
theorem co_7_250 : Cond.constantLong (ownN 7) 250 (57) ∈ tbl := tb_in 1003 (by decide +kernel) (by decide +kernel)
theorem co_7_274 : Cond.constantLong (ownN 7) 274 (5) ∈ tbl := tb_in 1026 (by decide +kernel) (by decide +kernel)
theorem co_7_279 : Cond.constantLong (ownN 7) 279 (2357) ∈ tbl := tb_in 1035 (by decide +kernel) (by decide +kernel)
theorem co_7_281 : Cond.constantLong (ownN 7) 281 (31) ∈ tbl := tb_in 1036 (by decide +kernel) (by decide +kernel)
