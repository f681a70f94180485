theorem mem_r {big : List Cond} (ws : List Cond) (ps : List Nat) (hp : ws = ps.filterMap (fun i => big[i]?)) : ∀ w ∈ ws, w ∈ big := by
  intro w hw
  rw [hp] at hw
  obtain ⟨i, -, hi⟩ := List.mem_filterMap.mp hw
  exact List.mem_of_getElem? hi
set_option maxRecDepth 100000 in
theorem gl_X5_add : GoodIn lw_tbl (wsV RL 13 RX5 yX5_add wsX5_add) := goodIn_sub (mem_r _ [150, 151, 152, 30, 153, 127, 128, 62, 154, 155, 30, 156, 157, 158, 159, 160, 161, 31, 162, 61, 163, 164, 165, 166, 53, 57, 167, 168, 169, 170, 171, 172, 173, 174, 52, 175, 176, 177, 178, 179, 181, 0, 182, 183, 185, 1, 186, 187, 188, 189, 32, 190, 79, 81, 191, 193, 2, 194, 134, 136, 138, 140, 142, 144, 146, 63, 65, 67, 69, 83, 85] rfl) (by decide +kernel)
set_option maxRecDepth 100000 in
theorem gl_X5_remove : GoodIn lw_tbl (wsV RL 18 RX5 yX5_remove wsX5_remove) := goodIn_sub (mem_r _ [195, 196, 197, 30, 198, 127, 128, 62, 199, 172, 173, 31, 174, 61, 52, 200, 201, 202, 203, 53, 57, 183, 185, 1, 186, 187, 188, 189, 32, 190, 79, 81, 191, 193, 2, 194, 134, 136, 138, 140, 142, 144, 146, 63, 65, 67, 69, 83, 85] rfl) (by decide +kernel)
set_option maxRecDepth 100000 in
theorem gl_X5_move : GoodIn lw_tbl (wsV RL 23 RX5 yX5_move wsX5_move) := goodIn_sub (mem_r _ [204, 205, 206, 30, 207, 127, 199, 172, 173, 31, 174, 61, 52, 154, 155, 30, 156, 157, 158, 159, 160, 161, 162, 163, 164, 165, 166, 53, 57, 200, 201, 202, 203, 183, 185, 1, 186, 175, 176, 177, 178, 179, 181, 0, 182, 134, 136, 138, 140, 142, 144, 146, 63, 65, 67, 69] rfl) (by decide +kernel)
set_option maxRecDepth 100000 in
theorem gl_X5_point : GoodIn lw_tbl (wsV RL 28 RX5 yX5_point wsX5_point) := goodIn_sub (mem_r _ [208, 209, 210, 30, 211, 127, 55, 59, 199, 172, 173, 31, 174, 61, 52, 212, 214, 3, 30, 215, 128, 129, 216, 217, 218, 32, 219, 79, 81, 220, 221, 222, 223, 224, 226, 4, 227, 80, 82, 228, 229, 230, 34, 231, 105, 106, 232, 234, 5, 235, 54, 98, 99, 236, 238, 6, 239, 58, 240, 241, 242, 243, 53, 57, 244, 245, 247, 248, 33, 249, 104, 97, 250, 251, 253, 254, 255, 256, 257, 258, 134, 136, 138, 140, 142, 144, 146, 63, 65, 67, 69, 83, 85, 112, 114, 123, 124] rfl) (by decide +kernel)
set_option maxRecDepth 100000 in
theorem gl_X5_ranked : GoodIn lw_tbl (wsV RL 32 RX5 yX5_ranked wsX5_ranked) := goodIn_sub (mem_r _ [259, 260, 261, 30, 262, 127, 263, 264, 265, 31, 266, 61, 52, 134, 136, 138, 140, 142, 144, 146, 63, 65, 67, 69] rfl) (by decide +kernel)
set_option maxRecDepth 100000 in
theorem gl_X5_part : GoodIn lw_tbl (wsV RL 36 RX5 yX5_part wsX5_part) := goodIn_sub (mem_r _ [267, 268, 269, 30, 270, 128, 82, 80, 271, 221, 222, 32, 223, 81, 272, 274, 7, 30, 275, 129, 111, 106, 224, 226, 4, 227, 127, 228, 229, 230, 34, 231, 105, 232, 234, 5, 235, 54, 98, 99, 236, 238, 6, 239, 58, 240, 241, 242, 31, 243, 53, 57, 244, 245, 247, 248, 33, 249, 104, 97, 276, 278, 8, 279, 130, 103, 250, 251, 253, 254, 255, 134, 136, 138, 140, 142, 144, 146, 83, 85, 112, 114, 123, 124, 63, 65, 67, 69] rfl) (by decide +kernel)
set_option maxRecDepth 100000 in
theorem gl_X5_chain : GoodIn lw_tbl (wsV RL 40 RX5 yX5_chain wsX5_chain) := goodIn_sub (mem_r _ [280, 281, 282, 30, 283, 128, 129, 127, 271, 221, 222, 32, 223, 81, 284, 285, 30, 286, 224, 226, 4, 227, 80, 82, 228, 229, 230, 34, 231, 105, 106, 232, 234, 5, 235, 54, 98, 99, 236, 238, 6, 239, 58, 240, 241, 242, 31, 243, 53, 57, 244, 245, 247, 248, 33, 249, 104, 97, 287, 288, 290, 291, 292, 263, 264, 265, 266, 61, 52, 134, 136, 138, 140, 142, 144, 146, 83, 85, 112, 114, 123, 124, 63, 65, 67, 69] rfl) (by decide +kernel)
set_option maxRecDepth 100000 in
theorem gl_X5_bridge : GoodIn lw_tbl (wsV RL 44 RX5 yX5_bridge wsX5_bridge) := goodIn_sub (mem_r _ [293, 294, 295, 30, 296, 128, 129, 80, 127, 271, 221, 222, 32, 223, 81, 297, 298, 299, 300, 220, 284, 285, 30, 286, 224, 226, 4, 227, 82, 228, 229, 230, 34, 231, 105, 106, 232, 234, 5, 235, 54, 98, 99, 236, 238, 6, 239, 58, 240, 241, 242, 31, 243, 53, 57, 244, 245, 247, 248, 33, 249, 104, 97, 301, 302, 303, 304, 305, 306, 307, 308, 263, 264, 265, 266, 61, 52, 134, 136, 138, 140, 142, 144, 146, 83, 85, 112, 114, 123, 124, 63, 65, 67, 69] rfl) (by decide +kernel)
set_option maxRecDepth 100000 in
theorem gl_X5_round : GoodIn lw_tbl (wsV RL 48 RX5 yX5_round wsX5_round) := goodIn_sub (mem_r _ [309, 310, 311, 30, 312, 131, 110, 108, 127, 313, 315, 9, 30, 316, 129, 62, 317, 318, 319, 35, 320, 107, 228, 229, 230, 34, 231, 105, 106, 232, 234, 5, 235, 54, 98, 99, 236, 238, 6, 239, 58, 240, 241, 242, 31, 243, 53, 57, 244, 245, 247, 248, 33, 249, 104, 97, 321, 322, 323, 324, 109, 100, 325, 327, 10, 328, 329, 330, 331, 254, 255, 332, 333, 334, 335, 336, 337, 338, 339, 340, 341, 291, 292, 263, 264, 265, 266, 61, 52, 134, 136, 138, 140, 142, 144, 146, 112, 114, 123, 124, 63, 65, 67, 69] rfl) (by decide +kernel)
set_option maxRecDepth 100000 in
theorem gl_X5_extreme : GoodIn lw_tbl (wsV RL 52 RX5 yX5_extreme wsX5_extreme) := goodIn_sub (mem_r _ [342, 343, 344, 30, 345, 127, 62, 131, 154, 155, 30, 156, 157, 158, 313, 315, 9, 316, 129, 317, 318, 319, 35, 320, 107, 108, 228, 229, 230, 34, 231, 105, 106, 232, 234, 5, 235, 54, 98, 99, 236, 238, 6, 239, 58, 240, 241, 242, 31, 243, 53, 57, 244, 245, 247, 248, 33, 249, 104, 97, 321, 322, 323, 324, 109, 100, 325, 327, 10, 328, 329, 330, 331, 254, 255, 332, 333, 334, 335, 336, 337, 338, 346, 347, 348, 349, 101, 102, 350, 351, 352, 353, 354, 355, 356, 263, 264, 265, 266, 61, 52, 134, 136, 138, 140, 142, 144, 146, 63, 65, 67, 69, 112, 114, 123, 124] rfl) (by decide +kernel)
set_option maxRecDepth 100000 in
theorem gl_X5_where : GoodIn lw_tbl (wsV RL 56 RX5 yX5_where wsX5_where) := goodIn_sub (mem_r _ [357, 358, 359, 30, 360, 131, 127, 154, 155, 30, 156, 157, 158, 313, 315, 9, 316, 129, 62, 317, 318, 319, 35, 320, 107, 108, 228, 229, 230, 34, 231, 105, 106, 232, 234, 5, 235, 54, 98, 99, 236, 238, 6, 239, 58, 240, 241, 242, 31, 243, 53, 57, 244, 245, 247, 248, 33, 249, 104, 97, 321, 322, 323, 324, 109, 100, 325, 327, 10, 328, 329, 330, 331, 254, 255, 332, 333, 334, 335, 336, 337, 338, 361, 362, 363, 364, 101, 102, 365, 367, 11, 368, 369, 164, 165, 166, 370, 371, 372, 373, 374, 375, 376, 37, 377, 378, 379, 380, 134, 136, 138, 140, 142, 144, 146, 63, 65, 67, 69, 112, 114, 123, 124] rfl) (by decide +kernel)
set_option maxRecDepth 100000 in
theorem gl_X5_touch : GoodIn lw_tbl (wsV RL 60 RX5 yX5_touch wsX5_touch) := goodIn_sub (mem_r _ [381, 382, 383, 30, 384, 127, 62, 131, 154, 155, 30, 156, 157, 158, 284, 285, 286, 313, 315, 9, 316, 129, 317, 318, 319, 35, 320, 107, 108, 228, 229, 230, 34, 231, 105, 106, 232, 234, 5, 235, 54, 98, 99, 236, 238, 6, 239, 58, 240, 241, 242, 31, 243, 53, 57, 244, 245, 247, 248, 33, 249, 104, 97, 321, 322, 323, 324, 109, 100, 325, 327, 10, 328, 329, 330, 331, 254, 255, 332, 333, 334, 335, 336, 337, 338, 361, 362, 363, 364, 101, 102, 365, 367, 11, 368, 369, 164, 165, 166, 370, 371, 372, 373, 374, 375, 376, 37, 377, 378, 379, 380, 385, 386, 387, 388, 389, 391, 12, 392, 393, 394, 395, 396, 397, 398, 399, 263, 264, 265, 266, 61, 52, 134, 136, 138, 140, 142, 144, 146, 63, 65, 67, 69, 112, 114, 123, 124] rfl) (by decide +kernel)
set_option maxRecDepth 100000 in
theorem gl_X5_area : GoodIn lw_tbl (wsV RL 64 RX5 yX5_area wsX5_area) := goodIn_sub (mem_r _ [400, 401, 402, 30, 403, 131, 127, 313, 315, 9, 30, 316, 129, 62, 317, 318, 319, 35, 320, 107, 108, 228, 229, 230, 34, 231, 105, 106, 232, 234, 5, 235, 54, 98, 99, 236, 238, 6, 239, 58, 240, 241, 242, 31, 243, 53, 57, 244, 245, 247, 248, 33, 249, 104, 97, 321, 322, 323, 324, 109, 100, 325, 327, 10, 328, 329, 330, 331, 254, 255, 332, 333, 334, 335, 336, 337, 338, 404, 405, 406, 407, 101, 102, 56, 60, 370, 134, 136, 138, 140, 142, 144, 146, 63, 65, 67, 69, 112, 114, 123, 124] rfl) (by decide +kernel)
set_option maxRecDepth 100000 in
theorem gl_X5_image : GoodIn lw_tbl (wsV RL 69 RX5 yX5_image wsX5_image) := goodIn_sub (mem_r _ [408, 409, 410, 30, 411, 132, 127, 133, 412, 413, 30, 414, 415, 416, 417, 31, 418, 61, 52, 53, 57, 183, 185, 1, 186, 134, 136, 138, 140, 142, 144, 146, 63, 65, 67, 69] rfl) (by decide +kernel)
set_option maxRecDepth 100000 in
theorem gl_X5_restore : GoodIn lw_tbl (wsV RL 73 RX5 yX5_restore wsX5_restore) := goodIn_sub (mem_r _ [419, 420, 421, 30, 422, 133, 127, 132, 128, 62, 412, 413, 30, 414, 415, 416, 417, 31, 418, 61, 52, 53, 57, 183, 185, 1, 186, 187, 188, 189, 32, 190, 79, 81, 191, 193, 2, 194, 134, 136, 138, 140, 142, 144, 146, 63, 65, 67, 69, 83, 85] rfl) (by decide +kernel)
set_option maxRecDepth 100000 in
theorem gl_X5_told : GoodIn lw_tbl (wsV RL 77 RX5 yX5_told wsX5_told) := goodIn_sub (mem_r _ [423, 424, 425, 30, 426, 127, 62, 128, 427, 428, 429, 32, 430, 220, 221, 222, 223, 81, 431, 433, 13, 30, 434, 271, 272, 274, 7, 275, 129, 111, 106, 224, 226, 4, 227, 80, 82, 228, 229, 230, 34, 231, 105, 232, 234, 5, 235, 54, 98, 99, 236, 238, 6, 239, 58, 240, 241, 242, 31, 243, 53, 57, 244, 245, 247, 248, 33, 249, 104, 97, 435, 437, 14, 438, 276, 278, 8, 279, 130, 103, 250, 251, 253, 254, 255, 439, 440, 441, 442, 443, 257, 258, 134, 136, 138, 140, 142, 144, 146, 63, 65, 67, 69, 83, 85, 112, 114, 123, 124] rfl) (by decide +kernel)
set_option maxRecDepth 100000 in
theorem gl_X5_init : GoodIn lw_tbl wsX5_init := goodIn_sub (mem_r _ [42, 43, 44, 45, 46, 47, 31, 127, 73, 74, 32, 128, 88, 89, 34, 129, 130, 117, 118, 35, 131, 132, 149, 133, 49, 50, 51, 72, 52, 53, 57, 61, 76, 77, 78, 79, 81, 91, 92, 94, 33, 95, 96, 97, 104, 120, 121, 63, 65, 67, 69, 134, 136, 138, 140, 142, 144, 146, 83, 85, 112, 114, 123, 124] rfl) (by decide +kernel)
set_option maxRecDepth 100000 in
theorem gl_X6_add : GoodIn lw_tbl (wsV RL 17 RX6 yX6_add wsX6_add) := goodIn_sub (mem_r _ [500, 501, 502, 36, 503, 453, 452, 450, 451, 504, 505, 36, 506, 507, 508, 509, 510, 511, 512, 514, 15, 515, 466, 468, 470, 472, 474, 476, 478, 480, 482, 484, 486, 488, 490, 492, 494, 496] rfl) (by decide +kernel)
set_option maxRecDepth 100000 in
theorem gl_X6_remove : GoodIn lw_tbl (wsV RL 22 RX6 yX6_remove wsX6_remove) := goodIn_sub (mem_r _ [516, 517, 518, 36, 519, 452, 453, 520, 522, 16, 36, 523, 509, 510, 511, 466, 468, 470, 472, 474, 476, 478, 480, 482, 484, 486, 488, 490, 492, 494, 496] rfl) (by decide +kernel)
set_option maxRecDepth 100000 in
theorem gl_X6_move : GoodIn lw_tbl (wsV RL 27 RX6 yX6_move wsX6_move) := goodIn_sub (mem_r _ [524, 525, 526, 36, 527, 450, 451, 520, 522, 16, 36, 523, 452, 509, 510, 511, 504, 505, 506, 507, 508, 512, 514, 15, 515, 466, 468, 470, 472, 474, 476, 478, 480, 482, 484, 486, 488, 490, 492, 494, 496] rfl) (by decide +kernel)
set_option maxRecDepth 100000 in
theorem gl_X6_point : GoodIn lw_tbl (wsV RL 31 RX6 yX6_point wsX6_point) := goodIn_sub (mem_r _ [528, 529, 530, 36, 531, 450, 451, 455, 520, 522, 16, 36, 523, 452, 509, 510, 511, 532, 534, 17, 535, 454, 536, 538, 18, 539, 458, 540, 542, 19, 543, 544, 546, 20, 547, 453, 456, 457, 548, 550, 21, 551, 460, 459, 552, 554, 22, 555, 556, 557, 558, 559, 561, 23, 562, 466, 468, 470, 472, 474, 476, 478, 480, 482, 484, 486, 488, 490, 492, 494, 496] rfl) (by decide +kernel)
set_option maxRecDepth 100000 in
theorem gl_X6_ranked : GoodIn lw_tbl (wsV RL 35 RX6 yX6_ranked wsX6_ranked) := goodIn_sub (mem_r _ [563, 564, 565, 36, 566, 453, 454, 532, 534, 17, 36, 535, 452, 450, 451, 455, 509, 510, 511, 466, 468, 470, 472, 474, 476, 478, 480, 482, 484, 486, 488, 490, 492, 494, 496] rfl) (by decide +kernel)
set_option maxRecDepth 100000 in
theorem gl_X6_part : GoodIn lw_tbl (wsV RL 39 RX6 yX6_part wsX6_part) := goodIn_sub (mem_r _ [567, 568, 569, 36, 570, 457, 456, 544, 546, 20, 36, 547, 453, 458, 532, 534, 17, 535, 452, 450, 454, 451, 455, 509, 510, 511, 540, 542, 19, 543, 548, 550, 21, 551, 460, 459, 552, 554, 22, 555, 556, 557, 558, 559, 561, 23, 562, 571, 572, 573, 574, 576, 24, 577, 578, 466, 468, 470, 472, 474, 476, 478, 480, 482, 484, 486, 488, 490, 492, 494, 496] rfl) (by decide +kernel)
set_option maxRecDepth 100000 in
theorem gl_X6_chain : GoodIn lw_tbl (wsV RL 43 RX6 yX6_chain wsX6_chain) := goodIn_sub (mem_r _ [579, 580, 581, 36, 582, 460, 459, 544, 546, 20, 36, 547, 453, 456, 457, 458, 532, 534, 17, 535, 452, 450, 454, 451, 455, 509, 510, 511, 548, 550, 21, 551, 552, 554, 22, 555, 556, 557, 558, 466, 468, 470, 472, 474, 476, 478, 480, 482, 484, 486, 488, 490, 492, 494, 496] rfl) (by decide +kernel)
set_option maxRecDepth 100000 in
theorem gl_X6_bridge : GoodIn lw_tbl (wsV RL 47 RX6 yX6_bridge wsX6_bridge) := goodIn_sub (mem_r _ [583, 584, 585, 36, 586, 457, 456, 460, 455, 459, 544, 546, 20, 36, 547, 453, 458, 532, 534, 17, 535, 452, 450, 454, 451, 509, 510, 511, 548, 550, 21, 551, 552, 554, 22, 555, 556, 557, 558, 466, 468, 470, 472, 474, 476, 478, 480, 482, 484, 486, 488, 490, 492, 494, 496] rfl) (by decide +kernel)
set_option maxRecDepth 100000 in
theorem gl_X6_round : GoodIn lw_tbl (wsV RL 51 RX6 yX6_round wsX6_round) := goodIn_sub (mem_r _ [587, 588, 589, 36, 590, 462, 461, 591, 593, 25, 36, 594, 460, 459, 544, 546, 20, 547, 453, 456, 457, 458, 532, 534, 17, 535, 452, 450, 454, 451, 455, 509, 510, 511, 548, 550, 21, 551, 552, 554, 22, 555, 556, 557, 558, 595, 597, 26, 598, 466, 468, 470, 472, 474, 476, 478, 480, 482, 484, 486, 488, 490, 492, 494, 496] rfl) (by decide +kernel)
set_option maxRecDepth 100000 in
theorem gl_X6_extreme : GoodIn lw_tbl (wsV RL 55 RX6 yX6_extreme wsX6_extreme) := goodIn_sub (mem_r _ [599, 600, 601, 36, 602, 453, 461, 462, 450, 451, 455, 504, 505, 36, 506, 507, 508, 509, 510, 511, 591, 593, 25, 594, 460, 459, 544, 546, 20, 547, 456, 457, 458, 532, 534, 17, 535, 452, 454, 548, 550, 21, 551, 552, 554, 22, 555, 556, 557, 558, 595, 597, 26, 598, 466, 468, 470, 472, 474, 476, 478, 480, 482, 484, 486, 488, 490, 492, 494, 496] rfl) (by decide +kernel)
set_option maxRecDepth 100000 in
theorem gl_X6_where : GoodIn lw_tbl (wsV RL 59 RX6 yX6_where wsX6_where) := goodIn_sub (mem_r _ [603, 604, 605, 36, 606, 504, 505, 36, 506, 507, 508, 509, 510, 511, 607, 609, 27, 610, 462, 461, 450, 451, 591, 593, 25, 594, 460, 459, 544, 546, 20, 547, 453, 456, 457, 458, 532, 534, 17, 535, 452, 454, 455, 548, 550, 21, 551, 552, 554, 22, 555, 556, 557, 558, 595, 597, 26, 598, 611, 612, 613, 466, 468, 470, 472, 474, 476, 478, 480, 482, 484, 486, 488, 490, 492, 494, 496] rfl) (by decide +kernel)
set_option maxRecDepth 100000 in
theorem gl_X6_touch : GoodIn lw_tbl (wsV RL 63 RX6 yX6_touch wsX6_touch) := goodIn_sub (mem_r _ [614, 615, 616, 36, 617, 453, 462, 461, 450, 451, 504, 505, 36, 506, 507, 508, 509, 510, 511, 607, 609, 27, 610, 591, 593, 25, 594, 460, 459, 544, 546, 20, 547, 456, 457, 458, 532, 534, 17, 535, 452, 454, 455, 548, 550, 21, 551, 552, 554, 22, 555, 556, 557, 558, 595, 597, 26, 598, 611, 612, 613, 618, 620, 28, 621, 466, 468, 470, 472, 474, 476, 478, 480, 482, 484, 486, 488, 490, 492, 494, 496] rfl) (by decide +kernel)
set_option maxRecDepth 100000 in
theorem gl_X6_area : GoodIn lw_tbl (wsV RL 68 RX6 yX6_area wsX6_area) := goodIn_sub (mem_r _ [622, 623, 624, 36, 625, 462, 461, 591, 593, 25, 36, 594, 460, 459, 544, 546, 20, 547, 453, 456, 457, 458, 532, 534, 17, 535, 452, 450, 454, 451, 455, 509, 510, 511, 548, 550, 21, 551, 552, 554, 22, 555, 556, 557, 558, 595, 597, 26, 598, 466, 468, 470, 472, 474, 476, 478, 480, 482, 484, 486, 488, 490, 492, 494, 496] rfl) (by decide +kernel)
set_option maxRecDepth 100000 in
theorem gl_X6_image : GoodIn lw_tbl (wsV RL 72 RX6 yX6_image wsX6_image) := goodIn_sub (mem_r _ [626, 627, 628, 36, 629, 464, 463, 450, 451, 452, 465, 509, 510, 36, 511, 466, 468, 470, 472, 474, 476, 478, 480, 482, 484, 486, 488, 490, 492, 494, 496] rfl) (by decide +kernel)
set_option maxRecDepth 100000 in
theorem gl_X6_restore : GoodIn lw_tbl (wsV RL 76 RX6 yX6_restore wsX6_restore) := goodIn_sub (mem_r _ [630, 631, 632, 36, 633, 465, 453, 450, 463, 451, 452, 464, 509, 510, 36, 511, 466, 468, 470, 472, 474, 476, 478, 480, 482, 484, 486, 488, 490, 492, 494, 496] rfl) (by decide +kernel)
set_option maxRecDepth 100000 in
theorem gl_X6_told : GoodIn lw_tbl (wsV RL 80 RX6 yX6_told wsX6_told) := goodIn_sub (mem_r _ [634, 635, 636, 36, 637, 458, 453, 509, 510, 36, 511, 544, 546, 20, 547, 456, 457, 532, 534, 17, 535, 452, 450, 454, 451, 455, 540, 542, 19, 543, 548, 550, 21, 551, 460, 459, 552, 554, 22, 555, 556, 557, 558, 559, 561, 23, 562, 571, 572, 573, 574, 576, 24, 577, 578, 466, 468, 470, 472, 474, 476, 478, 480, 482, 484, 486, 488, 490, 492, 494, 496] rfl) (by decide +kernel)
set_option maxRecDepth 100000 in
theorem gl_X6_init : GoodIn lw_tbl wsX6_init := goodIn_sub (mem_r _ [448, 449, 44, 45, 72, 450, 451, 149, 452, 454, 455, 459, 461, 463, 499, 464, 465, 466, 468, 470, 472, 474, 476, 478, 480, 482, 484, 486, 488, 490, 492, 494, 496] rfl) (by decide +kernel)
theorem lq_0 : (Cond.classLink RL 7 RX5) ∈ lw_tbl := List.mem_of_getElem? (i := 38) rfl
theorem lq_1 : (Cond.instantiable RX5 7) ∈ lw_tbl := List.mem_of_getElem? (i := 39) rfl
theorem lq_2 : (Cond.initialized RX5) ∈ lw_tbl := List.mem_of_getElem? (i := 30) rfl
theorem lq_3 : (Cond.classLink RL 10 RX6) ∈ lw_tbl := List.mem_of_getElem? (i := 444) rfl
theorem lq_4 : (Cond.instantiable RX6 16) ∈ lw_tbl := List.mem_of_getElem? (i := 445) rfl
theorem lq_5 : (Cond.initialized RX6) ∈ lw_tbl := List.mem_of_getElem? (i := 36) rfl
theorem lq_6 : (Cond.methodLink RL 9 yX5_init) ∈ lw_tbl := List.mem_of_getElem? (i := 40) rfl
theorem lq_7 : (Cond.methodLink RL 12 yX6_init) ∈ lw_tbl := List.mem_of_getElem? (i := 446) rfl
theorem lq_8 : (Cond.instanceMethod yX5_init) ∈ lw_tbl := List.mem_of_getElem? (i := 41) rfl
theorem lq_9 : (Cond.instanceMethod yX6_init) ∈ lw_tbl := List.mem_of_getElem? (i := 447) rfl
theorem lq_10 : (Cond.arrayClass .int) ∈ lw_tbl := List.mem_of_getElem? (i := 72) rfl
theorem lq_11 : (Cond.arrayClass .long) ∈ lw_tbl := List.mem_of_getElem? (i := 499) rfl
theorem lq_12 : (Cond.arrayClass .boolean) ∈ lw_tbl := List.mem_of_getElem? (i := 149) rfl
theorem lq_13 : (Cond.arrayOver (.object "LiveHull$Points")) ∈ lw_tbl := List.mem_of_getElem? (i := 126) rfl
theorem lq_14 : (Cond.instantiable RX0 2) ∈ lw_tbl := List.mem_of_getElem? (i := 89) rfl
theorem lq_15 : (Cond.instantiable RX2 2) ∈ lw_tbl := List.mem_of_getElem? (i := 74) rfl
theorem lq_16 : (Cond.instantiable RX3 4) ∈ lw_tbl := List.mem_of_getElem? (i := 47) rfl
theorem lq_17 : (Cond.instantiable RX4 2) ∈ lw_tbl := List.mem_of_getElem? (i := 118) rfl
theorem lq_18 : (Cond.methodLinkNest RX5 9 yX3_init "LiveHull") ∈ lw_tbl := List.mem_of_getElem? (i := 48) rfl
theorem lq_19 : (Cond.methodLinkNest RX5 18 yX2_init "LiveHull") ∈ lw_tbl := List.mem_of_getElem? (i := 75) rfl
theorem lq_20 : (Cond.methodLinkNest RX5 25 yX0_init "LiveHull") ∈ lw_tbl := List.mem_of_getElem? (i := 90) rfl
theorem lq_21 : (Cond.methodLinkNest RX5 35 yX4_init "LiveHull") ∈ lw_tbl := List.mem_of_getElem? (i := 119) rfl
theorem lq_22 : (Cond.methodLinkNest RX0 3 yX1_init "LiveHull") ∈ lw_tbl := List.mem_of_getElem? (i := 93) rfl
theorem lq_23 : (Cond.methodLinkNest RX4 3 yX1_init "LiveHull") ∈ lw_tbl := List.mem_of_getElem? (i := 122) rfl
set_option maxRecDepth 100000 in
theorem lin_X0 : ∀ w ∈ wsX00, w ∈ lw_tbl := mem_r _ [112, 114] rfl
set_option maxRecDepth 100000 in
theorem lin_X2 : ∀ w ∈ wsX20, w ∈ lw_tbl := mem_r _ [83, 85] rfl
set_option maxRecDepth 100000 in
theorem lin_X3 : ∀ w ∈ wsX30, w ∈ lw_tbl := mem_r _ [63, 65, 67, 69] rfl
set_option maxRecDepth 100000 in
theorem lin_X4 : ∀ w ∈ wsX40, w ∈ lw_tbl := mem_r _ [123, 124] rfl
set_option maxRecDepth 100000 in
theorem lin_X5 : ∀ w ∈ wsX50, w ∈ lw_tbl := mem_r _ [134, 136, 138, 140, 142, 144, 146] rfl
set_option maxRecDepth 100000 in
theorem lin_X6 : ∀ w ∈ wsX60, w ∈ lw_tbl := mem_r _ [466, 468, 470, 472, 474, 476, 478, 480, 482, 484, 486, 488, 490, 492, 494, 496] rfl
