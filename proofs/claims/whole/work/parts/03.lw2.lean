theorem inlX0 : ∀ w ∈ wsX00, w ∈ wsL_law := fun _ h => List.mem_append_left _ (List.mem_append_left _ (List.mem_append_left _ (List.mem_append_right _ h)))
theorem inlX1 : ∀ w ∈ wsX10, w ∈ wsL_law := fun _ h => List.mem_append_left _ (List.mem_append_left _ (List.mem_append_right _ h))
theorem inlX3 : ∀ w ∈ wsX30, w ∈ wsL_law := fun _ h => List.mem_append_left _ (List.mem_append_right _ h)
theorem inlX4 : ∀ w ∈ wsX40, w ∈ wsL_law := fun _ h => List.mem_append_left _ (List.mem_append_left _ (List.mem_append_left _ (List.mem_append_left _ (List.mem_append_right _ h))))
theorem inlX5 : ∀ w ∈ wsX50, w ∈ wsL_law := fun _ h => List.mem_append_left _ (List.mem_append_left _ (List.mem_append_left _ (List.mem_append_left _ (List.mem_append_left _ (List.mem_append_left _ (List.mem_append_right _ h))))))
theorem inlX6 : ∀ w ∈ wsX60, w ∈ wsL_law := fun _ h => List.mem_append_left _ (List.mem_append_left _ (List.mem_append_left _ (List.mem_append_left _ (List.mem_append_left _ (List.mem_append_right _ h)))))
set_option maxRecDepth 100000 in
theorem ggL_law_X5_init : GoodIn wsL_law wsX5_init := goodIn_r _ [8, 9, 10, 11, 12, 13, 14, 15, 16, 17, 18, 19, 20, 21, 22, 23, 24, 25, 26, 27, 28, 29, 30, 31, 32, 33, 34, 35, 36, 37, 38, 39, 40, 41, 42, 43, 44, 45, 46, 47, 48, 49, 50, 51, 52, 53, 54, 55, 56, 57, 58, 59, 60, 61, 62, 63, 64, 65, 66, 67, 68, 69, 70, 71, 72, 73, 74, 75, 76, 77, 78, 79, 80, 81, 82, 83, 84, 85, 86, 87, 88, 89, 90, 91, 92, 93, 94, 95, 96, 97, 98, 99, 100, 101, 102, 103, 104, 105, 106, 107, 108, 109, 110, 111, 112, 113, 114, 115, 116, 117, 118, 119, 120, 121, 122, 123, 124, 125, 126, 127, 128, 129, 130, 131, 132, 133, 134, 135, 136, 137, 138, 139, 140, 141, 142, 143, 144, 145, 146, 147, 148, 149, 150, 151, 152, 153, 154, 2, 155, 156, 157, 158, 159, 160, 161, 162, 163, 164, 165, 166, 167, 168, 169, 170, 171, 707, 708, 709, 710, 690, 691, 692, 693, 694, 711, 712, 713, 714, 715, 716, 717, 718, 719, 720, 721, 722, 723, 724, 725, 726, 727, 728, 729, 730, 731, 732, 733, 734, 735, 736, 737, 738] (by decide +kernel) (by decide +kernel)
set_option maxRecDepth 100000 in
theorem gL_law_X5_init : GoodIn wsL_law (wsX5_init) := ggL_law_X5_init
set_option maxRecDepth 100000 in
theorem ggL_law_X6_init : GoodIn wsL_law wsX6_init := goodIn_r _ [174, 175, 10, 11, 32, 176, 177, 178, 179, 180, 181, 182, 183, 184, 5, 185, 186, 187, 188, 189, 190, 191, 192, 193, 194, 195, 196, 197, 198, 695, 696, 697, 698, 699, 700, 701, 702, 703, 704, 705, 706] (by decide +kernel) (by decide +kernel)
set_option maxRecDepth 100000 in
theorem gL_law_X6_init : GoodIn wsL_law (wsX6_init) := ggL_law_X6_init
set_option maxRecDepth 100000 in
theorem ggL_law_X5_write : GoodIn wsL_law wsX5_write := goodIn_r _ [202, 15, 203, 204, 154, 2, 155, 109, 110, 111, 14, 112, 113, 33, 690, 691, 692, 693, 694, 707, 708, 709, 710] (by decide +kernel) (by decide +kernel)
set_option maxRecDepth 100000 in
theorem gL_law_X5_write : GoodIn wsL_law (wsV RL 13 RX5 yX5_write wsX5_write) := goodIn_app (goodIn_of _ (by decide +kernel)) ggL_law_X5_write
set_option maxRecDepth 100000 in
theorem ggL_law_X6_write : GoodIn wsL_law wsX6_write := goodIn_r _ [208, 209, 210, 211, 176, 212, 213, 5, 214, 695, 696, 697, 698, 699, 700, 701, 702, 703, 704, 705, 706] (by decide +kernel) (by decide +kernel)
set_option maxRecDepth 100000 in
theorem gL_law_X6_write : GoodIn wsL_law (wsV RL 17 RX6 yX6_write wsX6_write) := goodIn_app (goodIn_of _ (by decide +kernel)) ggL_law_X6_write
set_option maxRecDepth 100000 in
theorem ggL_law_X5_wipe : GoodIn wsL_law wsX5_wipe := goodIn_r _ [218, 15, 203, 168, 169, 170, 14, 171, 113, 690, 691, 692, 693, 694, 707, 708, 709, 710] (by decide +kernel) (by decide +kernel)
set_option maxRecDepth 100000 in
theorem gL_law_X5_wipe : GoodIn wsL_law (wsV RL 18 RX5 yX5_wipe wsX5_wipe) := goodIn_app (goodIn_of _ (by decide +kernel)) ggL_law_X5_wipe
set_option maxRecDepth 100000 in
theorem ggL_law_X6_wipe : GoodIn wsL_law wsX6_wipe := goodIn_r _ [222, 211, 695, 696, 697, 698, 699, 700, 701, 702, 703, 704, 705, 706] (by decide +kernel) (by decide +kernel)
set_option maxRecDepth 100000 in
theorem gL_law_X6_wipe : GoodIn wsL_law (wsV RL 22 RX6 yX6_wipe wsX6_wipe) := goodIn_app (goodIn_of _ (by decide +kernel)) ggL_law_X6_wipe
set_option maxRecDepth 100000 in
theorem ggL_law_X5_fault : GoodIn wsL_law wsX5_fault := goodIn_r _ [226, 15, 24, 114, 115, 116, 14, 117, 118, 113, 119, 120, 121, 22, 122, 123, 124, 125, 126, 127, 128, 129, 130, 131, 132, 133, 134, 135, 34, 136, 137, 138, 139, 33, 140, 141, 142, 143, 144, 145, 146, 147, 148, 149, 150, 151, 152, 153, 54, 55, 154, 2, 155, 156, 157, 158, 159, 56, 57, 58, 160, 161, 162, 163, 164, 165, 166, 167, 690, 691, 692, 693, 694, 707, 708, 709, 710, 713, 714, 715, 716, 717, 718, 719, 720, 721, 722, 723, 724, 725, 726] (by decide +kernel) (by decide +kernel)
set_option maxRecDepth 100000 in
theorem gL_law_X5_fault : GoodIn wsL_law (wsV RL 23 RX5 yX5_fault wsX5_fault) := goodIn_app (goodIn_of _ (by decide +kernel)) ggL_law_X5_fault
set_option maxRecDepth 100000 in
theorem ggL_law_X6_fault : GoodIn wsL_law wsX6_fault := goodIn_r _ [230, 178, 231, 211, 176, 183, 184, 5, 185, 232, 233, 234, 235, 236, 237, 238, 239, 240, 241, 242, 243, 244, 245, 212, 213, 214, 695, 696, 697, 698, 699, 700, 701, 702, 703, 704, 705, 706] (by decide +kernel) (by decide +kernel)
set_option maxRecDepth 100000 in
theorem gL_law_X6_fault : GoodIn wsL_law (wsV RL 26 RX6 yX6_fault wsX6_fault) := goodIn_app (goodIn_of _ (by decide +kernel)) ggL_law_X6_fault
set_option maxRecDepth 100000 in
theorem ggL_law_X5_lay : GoodIn wsL_law wsX5_lay := goodIn_r _ [249, 15, 24, 250, 23, 28, 19, 114, 115, 116, 14, 117, 118, 113, 119, 120, 121, 22, 122, 123, 124, 125, 126, 127, 128, 129, 130, 131, 132, 133, 134, 135, 34, 136, 137, 138, 139, 33, 140, 141, 142, 143, 144, 145, 146, 147, 148, 149, 150, 151, 152, 153, 54, 55, 154, 2, 155, 156, 157, 158, 159, 56, 57, 58, 160, 161, 162, 163, 164, 165, 166, 167, 251, 252, 253, 27, 254, 45, 46, 255, 256, 257, 50, 258, 259, 260, 261, 262, 263, 264, 265, 47, 48, 266, 267, 268, 269, 270, 271, 18, 272, 273, 690, 691, 692, 693, 694, 713, 714, 715, 716, 717, 718, 719, 720, 721, 722, 723, 724, 725, 726, 707, 708, 709, 710, 727, 728, 729, 730, 731, 732, 733, 734, 735, 736, 737, 738, 711, 712] (by decide +kernel) (by decide +kernel)
set_option maxRecDepth 100000 in
theorem gL_law_X5_lay : GoodIn wsL_law (wsV RL 27 RX5 yX5_lay wsX5_lay) := goodIn_app (goodIn_of _ (by decide +kernel)) ggL_law_X5_lay
set_option maxRecDepth 100000 in
theorem ggL_law_X6_lay : GoodIn wsL_law wsX6_lay := goodIn_r _ [277, 178, 177, 278, 228, 229, 5, 230, 231, 211, 176, 183, 184, 185, 232, 233, 234, 235, 236, 237, 238, 239, 240, 241, 242, 243, 244, 245, 212, 213, 214, 194, 195, 196, 197, 179, 198, 695, 696, 697, 698, 699, 700, 701, 702, 703, 704, 705, 706] (by decide +kernel) (by decide +kernel)
set_option maxRecDepth 100000 in
theorem gL_law_X6_lay : GoodIn wsL_law (wsV RL 30 RX6 yX6_lay wsX6_lay) := goodIn_app (goodIn_of _ (by decide +kernel)) ggL_law_X6_lay
set_option maxRecDepth 100000 in
theorem ggL_law_X5_read : GoodIn wsL_law wsX5_read := goodIn_r _ [282, 28, 283, 19, 284, 285, 286, 2, 287, 23, 250, 204, 154, 155, 288, 289, 290, 18, 291, 40, 273, 292, 293, 294, 295, 296, 297, 298, 27, 299, 45, 300, 301, 302, 303, 46, 47, 48, 49, 255, 256, 266, 267, 268, 257, 50, 690, 691, 692, 693, 694, 727, 728, 729, 730, 731, 732, 733, 734, 735, 736, 737, 738, 713, 714, 715, 716, 717, 718, 719, 720, 721, 722, 723, 724, 725, 726, 711, 712] (by decide +kernel) (by decide +kernel)
set_option maxRecDepth 100000 in
theorem gL_law_X5_read : GoodIn wsL_law (wsV RL 31 RX5 yX5_read wsX5_read) := goodIn_app (goodIn_of _ (by decide +kernel)) ggL_law_X5_read
set_option maxRecDepth 100000 in
theorem ggL_law_X6_read : GoodIn wsL_law wsX6_read := goodIn_r _ [307, 308, 309, 310, 311, 5, 312, 177, 212, 213, 214, 313, 314, 315, 316, 179, 317, 318, 319, 320, 198, 180, 695, 696, 697, 698, 699, 700, 701, 702, 703, 704, 705, 706] (by decide +kernel) (by decide +kernel)
set_option maxRecDepth 100000 in
theorem gL_law_X6_read : GoodIn wsL_law (wsV RL 35 RX6 yX6_read wsX6_read) := goodIn_app (goodIn_of _ (by decide +kernel)) ggL_law_X6_read
set_option maxRecDepth 100000 in
theorem ggL_law_X5_wire : GoodIn wsL_law wsX5_wire := goodIn_r _ [324, 28, 19, 325, 326, 327, 2, 328, 23, 250, 204, 154, 155, 329, 330, 331, 27, 332, 255, 256, 333, 334, 288, 289, 290, 18, 291, 40, 273, 292, 293, 294, 295, 296, 297, 298, 299, 45, 300, 301, 302, 303, 46, 47, 48, 49, 266, 267, 268, 257, 50, 335, 336, 337, 338, 690, 691, 692, 693, 694, 713, 714, 715, 716, 717, 718, 719, 720, 721, 722, 723, 724, 725, 726, 727, 728, 729, 730, 731, 732, 733, 734, 735, 736, 737, 738, 711, 712] (by decide +kernel) (by decide +kernel)
set_option maxRecDepth 100000 in
theorem gL_law_X5_wire : GoodIn wsL_law (wsV RL 36 RX5 yX5_wire wsX5_wire) := goodIn_app (goodIn_of _ (by decide +kernel)) ggL_law_X5_wire
set_option maxRecDepth 100000 in
theorem ggL_law_X6_wire : GoodIn wsL_law wsX6_wire := goodIn_r _ [342, 343, 344, 345, 346, 5, 347, 177, 212, 213, 214, 313, 314, 315, 316, 179, 317, 318, 319, 320, 198, 180, 695, 696, 697, 698, 699, 700, 701, 702, 703, 704, 705, 706] (by decide +kernel) (by decide +kernel)
set_option maxRecDepth 100000 in
theorem gL_law_X6_wire : GoodIn wsL_law (wsV RL 39 RX6 yX6_wire wsX6_wire) := goodIn_app (goodIn_of _ (by decide +kernel)) ggL_law_X6_wire
set_option maxRecDepth 100000 in
theorem ggL_law_X5_day : GoodIn wsL_law wsX5_day := goodIn_r _ [351, 28, 352, 19, 353, 204, 154, 2, 155, 288, 289, 290, 18, 291, 40, 273, 292, 293, 294, 295, 296, 297, 298, 27, 299, 45, 300, 301, 302, 303, 46, 47, 48, 49, 255, 256, 266, 267, 268, 257, 50, 354, 355, 356, 357, 358, 359, 360, 690, 691, 692, 693, 694, 727, 728, 729, 730, 731, 732, 733, 734, 735, 736, 737, 738, 711, 712] (by decide +kernel) (by decide +kernel)
set_option maxRecDepth 100000 in
theorem gL_law_X5_day : GoodIn wsL_law (wsV RL 40 RX5 yX5_day wsX5_day) := goodIn_app (goodIn_of _ (by decide +kernel)) ggL_law_X5_day
set_option maxRecDepth 100000 in
theorem ggL_law_X6_day : GoodIn wsL_law wsX6_day := goodIn_r _ [364, 212, 213, 5, 214, 313, 314, 315, 316, 179, 317, 318, 319, 320, 198, 180, 365, 366, 367, 368, 695, 696, 697, 698, 699, 700, 701, 702, 703, 704, 705, 706] (by decide +kernel) (by decide +kernel)
set_option maxRecDepth 100000 in
theorem gL_law_X6_day : GoodIn wsL_law (wsV RL 43 RX6 yX6_day wsX6_day) := goodIn_app (goodIn_of _ (by decide +kernel)) ggL_law_X6_day
set_option maxRecDepth 100000 in
theorem ggL_law_X5_tick : GoodIn wsL_law wsX5_tick := goodIn_r _ [372, 28, 373, 19, 374, 23, 204, 154, 2, 155, 288, 289, 290, 18, 291, 40, 273, 292, 293, 294, 295, 296, 297, 298, 27, 299, 45, 300, 301, 302, 303, 46, 47, 48, 49, 255, 256, 266, 267, 268, 257, 50, 375, 376, 377, 378, 250, 379, 380, 381, 382, 383, 384, 385, 386, 387, 388, 333, 334, 354, 355, 356, 357, 358, 359, 360, 389, 390, 391, 392, 393, 394, 395, 396, 397, 398, 399, 400, 401, 402, 22, 403, 130, 404, 405, 406, 407, 408, 409, 410, 411, 412, 413, 414, 415, 416, 417, 418, 419, 420, 421, 422, 423, 424, 425, 426, 427, 428, 429, 430, 431, 432, 433, 434, 435, 57, 56, 436, 690, 691, 692, 693, 694, 727, 728, 729, 730, 731, 732, 733, 734, 735, 736, 737, 738, 711, 712, 713, 714, 715, 716, 717, 718, 719, 720, 721, 722, 723, 724, 725, 726] (by decide +kernel) (by decide +kernel)
set_option maxRecDepth 100000 in
theorem gL_law_X5_tick : GoodIn wsL_law (wsV RL 44 RX5 yX5_tick wsX5_tick) := goodIn_app (goodIn_of _ (by decide +kernel)) ggL_law_X5_tick
set_option maxRecDepth 100000 in
theorem ggL_law_X6_tick : GoodIn wsL_law wsX6_tick := goodIn_r _ [440, 441, 179, 212, 213, 5, 214, 317, 318, 319, 320, 198, 180, 442, 443, 444, 445, 177, 446, 447, 448, 449, 450, 451, 452, 453, 454, 455, 456, 457, 458, 459, 460, 461, 181, 462, 463, 464, 465, 182, 466, 467, 468, 469, 470, 471, 472, 473, 474, 475, 476, 477, 478, 479, 480, 481, 482, 483, 484, 485, 486, 487, 488, 489, 695, 696, 697, 698, 699, 700, 701, 702, 703, 704, 705, 706] (by decide +kernel) (by decide +kernel)
set_option maxRecDepth 100000 in
theorem gL_law_X6_tick : GoodIn wsL_law (wsV RL 47 RX6 yX6_tick wsX6_tick) := goodIn_app (goodIn_of _ (by decide +kernel)) ggL_law_X6_tick
set_option maxRecDepth 100000 in
theorem ggL_law_X5_silence : GoodIn wsL_law wsX5_silence := goodIn_r _ [493, 19, 28, 494, 495, 496, 497, 2, 498, 353, 23, 499, 288, 289, 290, 18, 291, 40, 273, 292, 293, 294, 295, 296, 297, 298, 27, 299, 45, 300, 301, 302, 303, 46, 47, 48, 49, 255, 256, 266, 267, 268, 257, 50, 354, 355, 356, 357, 358, 359, 360, 690, 691, 692, 693, 694, 727, 728, 729, 730, 731, 732, 733, 734, 735, 736, 737, 738, 713, 714, 715, 716, 717, 718, 719, 720, 721, 722, 723, 724, 725, 726, 711, 712] (by decide +kernel) (by decide +kernel)
set_option maxRecDepth 100000 in
theorem gL_law_X5_silence : GoodIn wsL_law (wsV RL 48 RX5 yX5_silence wsX5_silence) := goodIn_app (goodIn_of _ (by decide +kernel)) ggL_law_X5_silence
set_option maxRecDepth 100000 in
theorem ggL_law_X6_silence : GoodIn wsL_law wsX6_silence := goodIn_r _ [503, 177, 179, 504, 505, 506, 5, 507, 508, 509, 510, 511, 317, 318, 319, 320, 198, 180, 695, 696, 697, 698, 699, 700, 701, 702, 703, 704, 705, 706] (by decide +kernel) (by decide +kernel)
set_option maxRecDepth 100000 in
theorem gL_law_X6_silence : GoodIn wsL_law (wsV RL 51 RX6 yX6_silence wsX6_silence) := goodIn_app (goodIn_of _ (by decide +kernel)) ggL_law_X6_silence
set_option maxRecDepth 100000 in
theorem ggL_law_X5_reset : GoodIn wsL_law wsX5_reset := goodIn_r _ [515, 28, 374, 353, 19, 288, 289, 290, 18, 291, 40, 273, 292, 293, 294, 295, 296, 297, 298, 27, 299, 45, 300, 301, 302, 303, 46, 47, 48, 49, 255, 256, 266, 267, 268, 257, 50, 354, 355, 356, 357, 358, 359, 360, 516, 263, 264, 265, 258, 259, 260, 261, 690, 691, 692, 693, 694, 727, 728, 729, 730, 731, 732, 733, 734, 735, 736, 737, 738, 711, 712] (by decide +kernel) (by decide +kernel)
set_option maxRecDepth 100000 in
theorem gL_law_X5_reset : GoodIn wsL_law (wsV RL 52 RX5 yX5_reset wsX5_reset) := goodIn_app (goodIn_of _ (by decide +kernel)) ggL_law_X5_reset
set_option maxRecDepth 100000 in
theorem ggL_law_X6_reset : GoodIn wsL_law wsX6_reset := goodIn_r _ [520, 179, 365, 366, 367, 5, 368, 317, 318, 319, 320, 198, 180, 695, 696, 697, 698, 699, 700, 701, 702, 703, 704, 705, 706] (by decide +kernel) (by decide +kernel)
set_option maxRecDepth 100000 in
theorem gL_law_X6_reset : GoodIn wsL_law (wsV RL 55 RX6 yX6_reset wsX6_reset) := goodIn_app (goodIn_of _ (by decide +kernel)) ggL_law_X6_reset
set_option maxRecDepth 100000 in
theorem ggL_law_X5_undo : GoodIn wsL_law wsX5_undo := goodIn_r _ [524, 19, 525, 28, 526, 527, 528, 18, 529, 40, 273, 530, 416, 294, 417, 690, 691, 692, 693, 694, 711, 712] (by decide +kernel) (by decide +kernel)
set_option maxRecDepth 100000 in
theorem gL_law_X5_undo : GoodIn wsL_law (wsV RL 56 RX5 yX5_undo wsX5_undo) := goodIn_app (goodIn_of _ (by decide +kernel)) ggL_law_X5_undo
set_option maxRecDepth 100000 in
theorem ggL_law_X6_undo : GoodIn wsL_law wsX6_undo := goodIn_r _ [534, 198, 179, 180, 695, 696, 697, 698, 699, 700, 701, 702, 703, 704, 705, 706] (by decide +kernel) (by decide +kernel)
set_option maxRecDepth 100000 in
theorem gL_law_X6_undo : GoodIn wsL_law (wsV RL 59 RX6 yX6_undo wsX6_undo) := goodIn_app (goodIn_of _ (by decide +kernel)) ggL_law_X6_undo
set_option maxRecDepth 100000 in
theorem ggL_law_X5_device : GoodIn wsL_law wsX5_device := goodIn_r _ [538, 23, 539, 540, 379, 28, 283, 541, 542, 284, 285, 286, 2, 287, 250, 204, 154, 155, 543, 333, 334, 544, 412, 413, 27, 414, 45, 46, 415, 416, 294, 417, 545, 546, 547, 548, 266, 409, 408, 422, 411, 549, 550, 551, 552, 553, 554, 555, 556, 380, 381, 557, 387, 384, 388, 558, 559, 560, 561, 562, 563, 690, 691, 692, 693, 694, 713, 714, 715, 716, 717, 718, 719, 720, 721, 722, 723, 724, 725, 726, 727, 728, 729, 730, 731, 732, 733, 734, 735, 736, 737, 738] (by decide +kernel) (by decide +kernel)
set_option maxRecDepth 100000 in
theorem gL_law_X5_device : GoodIn wsL_law (wsV RL 60 RX5 yX5_device wsX5_device) := goodIn_app (goodIn_of _ (by decide +kernel)) ggL_law_X5_device
set_option maxRecDepth 100000 in
theorem ggL_law_X6_device : GoodIn wsL_law wsX6_device := goodIn_r _ [567, 568, 177, 179, 309, 310, 311, 5, 312, 212, 213, 214, 474, 475, 476, 477, 478, 479, 480, 481, 450, 451, 452, 453, 454, 455, 456, 457, 458, 459, 460, 461, 181, 462, 463, 464, 465, 182, 466, 467, 468, 469, 695, 696, 697, 698, 699, 700, 701, 702, 703, 704, 705, 706] (by decide +kernel) (by decide +kernel)
set_option maxRecDepth 100000 in
theorem gL_law_X6_device : GoodIn wsL_law (wsV RL 63 RX6 yX6_device wsX6_device) := goodIn_app (goodIn_of _ (by decide +kernel)) ggL_law_X6_device
set_option maxRecDepth 100000 in
theorem ggL_law_X5_stop : GoodIn wsL_law wsX5_stop := goodIn_r _ [572, 23, 250, 28, 380, 379, 381, 284, 285, 286, 2, 287, 204, 154, 155, 553, 554, 555, 556, 557, 387, 384, 388, 333, 334, 558, 559, 560, 561, 562, 563, 543, 573, 574, 575, 576, 577, 578, 579, 355, 356, 357, 358, 359, 360, 690, 691, 692, 693, 694, 713, 714, 715, 716, 717, 718, 719, 720, 721, 722, 723, 724, 725, 726, 727, 728, 729, 730, 731, 732, 733, 734, 735, 736, 737, 738] (by decide +kernel) (by decide +kernel)
set_option maxRecDepth 100000 in
theorem gL_law_X5_stop : GoodIn wsL_law (wsV RL 64 RX5 yX5_stop wsX5_stop) := goodIn_app (goodIn_of _ (by decide +kernel)) ggL_law_X5_stop
set_option maxRecDepth 100000 in
theorem ggL_law_X6_stop : GoodIn wsL_law wsX6_stop := goodIn_r _ [583, 343, 179, 309, 310, 311, 5, 312, 177, 212, 213, 214, 450, 451, 452, 453, 454, 455, 456, 457, 458, 459, 460, 461, 181, 462, 463, 464, 465, 182, 466, 467, 468, 469, 695, 696, 697, 698, 699, 700, 701, 702, 703, 704, 705, 706] (by decide +kernel) (by decide +kernel)
set_option maxRecDepth 100000 in
theorem gL_law_X6_stop : GoodIn wsL_law (wsV RL 68 RX6 yX6_stop wsX6_stop) := goodIn_app (goodIn_of _ (by decide +kernel)) ggL_law_X6_stop
set_option maxRecDepth 100000 in
theorem ggL_law_X5_wireOf : GoodIn wsL_law wsX5_wireOf := goodIn_r _ [587, 28, 23, 379, 325, 326, 327, 2, 328, 250, 204, 154, 155, 329, 330, 331, 27, 332, 255, 256, 333, 334, 588, 577, 384, 578, 579, 355, 356, 357, 358, 359, 360, 589, 590, 591, 592, 380, 381, 382, 383, 385, 386, 387, 388, 354, 690, 691, 692, 693, 694, 713, 714, 715, 716, 717, 718, 719, 720, 721, 722, 723, 724, 725, 726, 727, 728, 729, 730, 731, 732, 733, 734, 735, 736, 737, 738] (by decide +kernel) (by decide +kernel)
set_option maxRecDepth 100000 in
theorem gL_law_X5_wireOf : GoodIn wsL_law (wsV RL 69 RX5 yX5_wireOf wsX5_wireOf) := goodIn_app (goodIn_of _ (by decide +kernel)) ggL_law_X5_wireOf
set_option maxRecDepth 100000 in
theorem ggL_law_X6_wireOf : GoodIn wsL_law wsX6_wireOf := goodIn_r _ [596, 343, 179, 344, 345, 346, 5, 347, 177, 212, 213, 214, 462, 463, 464, 465, 182, 597, 598, 599, 600, 181, 601, 602, 603, 604, 446, 447, 448, 449, 450, 451, 452, 453, 454, 455, 456, 457, 458, 459, 460, 461, 466, 467, 468, 469, 695, 696, 697, 698, 699, 700, 701, 702, 703, 704, 705, 706] (by decide +kernel) (by decide +kernel)
set_option maxRecDepth 100000 in
theorem gL_law_X6_wireOf : GoodIn wsL_law (wsV RL 72 RX6 yX6_wireOf wsX6_wireOf) := goodIn_app (goodIn_of _ (by decide +kernel)) ggL_law_X6_wireOf
set_option maxRecDepth 100000 in
theorem ggL_law_X5_worst : GoodIn wsL_law wsX5_worst := goodIn_r _ [608, 23, 379, 204, 154, 2, 155, 609, 610, 611, 612, 250, 28, 329, 330, 331, 27, 332, 255, 256, 333, 334, 589, 590, 591, 592, 380, 381, 382, 383, 384, 385, 386, 387, 388, 354, 355, 356, 357, 358, 359, 360, 690, 691, 692, 693, 694, 713, 714, 715, 716, 717, 718, 719, 720, 721, 722, 723, 724, 725, 726, 727, 728, 729, 730, 731, 732, 733, 734, 735, 736, 737, 738] (by decide +kernel) (by decide +kernel)
set_option maxRecDepth 100000 in
theorem gL_law_X5_worst : GoodIn wsL_law (wsV RL 73 RX5 yX5_worst wsX5_worst) := goodIn_app (goodIn_of _ (by decide +kernel)) ggL_law_X5_worst
set_option maxRecDepth 100000 in
theorem ggL_law_X6_worst : GoodIn wsL_law wsX6_worst := goodIn_r _ [616, 617, 618, 212, 213, 5, 214, 619, 620, 621, 622, 177, 179, 597, 598, 599, 600, 181, 601, 602, 603, 604, 446, 447, 448, 449, 450, 451, 452, 453, 454, 455, 456, 457, 458, 459, 460, 461, 462, 463, 464, 465, 182, 466, 467, 468, 469, 695, 696, 697, 698, 699, 700, 701, 702, 703, 704, 705, 706] (by decide +kernel) (by decide +kernel)
set_option maxRecDepth 100000 in
theorem gL_law_X6_worst : GoodIn wsL_law (wsV RL 76 RX6 yX6_worst wsX6_worst) := goodIn_app (goodIn_of _ (by decide +kernel)) ggL_law_X6_worst
set_option maxRecDepth 100000 in
theorem ggL_law_X5_help : GoodIn wsL_law wsX5_help := goodIn_r _ [626, 23, 379, 250, 204, 154, 2, 155, 609, 610, 611, 612, 28, 329, 330, 331, 27, 332, 255, 256, 333, 334, 589, 590, 591, 592, 380, 381, 382, 383, 384, 385, 386, 387, 388, 354, 355, 356, 357, 358, 359, 360, 543, 690, 691, 692, 693, 694, 713, 714, 715, 716, 717, 718, 719, 720, 721, 722, 723, 724, 725, 726, 727, 728, 729, 730, 731, 732, 733, 734, 735, 736, 737, 738] (by decide +kernel) (by decide +kernel)
set_option maxRecDepth 100000 in
theorem gL_law_X5_help : GoodIn wsL_law (wsV RL 77 RX5 yX5_help wsX5_help) := goodIn_app (goodIn_of _ (by decide +kernel)) ggL_law_X5_help
set_option maxRecDepth 100000 in
theorem ggL_law_X6_help : GoodIn wsL_law wsX6_help := goodIn_r _ [630, 177, 182, 617, 618, 212, 213, 5, 214, 619, 620, 621, 622, 179, 597, 598, 599, 600, 181, 601, 602, 603, 604, 446, 447, 448, 449, 450, 451, 452, 453, 454, 455, 456, 457, 458, 459, 460, 461, 462, 463, 464, 465, 466, 467, 468, 469, 695, 696, 697, 698, 699, 700, 701, 702, 703, 704, 705, 706] (by decide +kernel) (by decide +kernel)
set_option maxRecDepth 100000 in
theorem gL_law_X6_help : GoodIn wsL_law (wsV RL 80 RX6 yX6_help wsX6_help) := goodIn_app (goodIn_of _ (by decide +kernel)) ggL_law_X6_help
set_option maxRecDepth 100000 in
theorem ggL_law_X5_zone : GoodIn wsL_law wsX5_zone := goodIn_r _ [634, 28, 23, 374, 204, 154, 2, 155, 635, 396, 397, 27, 398, 393, 266, 399, 333, 334, 543, 636, 637, 638, 639, 257, 49, 640, 641, 642, 643, 644, 395, 645, 646, 647, 648, 22, 649, 123, 55, 354, 355, 356, 357, 358, 359, 360, 375, 376, 377, 378, 250, 379, 380, 381, 382, 383, 384, 385, 386, 387, 388, 690, 691, 692, 693, 694, 727, 728, 729, 730, 731, 732, 733, 734, 735, 736, 737, 738, 713, 714, 715, 716, 717, 718, 719, 720, 721, 722, 723, 724, 725, 726] (by decide +kernel) (by decide +kernel)
set_option maxRecDepth 100000 in
theorem gL_law_X5_zone : GoodIn wsL_law (wsV RL 81 RX5 yX5_zone wsX5_zone) := goodIn_app (goodIn_of _ (by decide +kernel)) ggL_law_X5_zone
set_option maxRecDepth 100000 in
theorem ggL_law_X6_zone : GoodIn wsL_law wsX6_zone := goodIn_r _ [653, 654, 212, 213, 5, 214, 482, 483, 484, 485, 177, 179, 655, 656, 657, 658, 659, 660, 661, 662, 663, 664, 665, 666, 446, 447, 448, 449, 450, 451, 452, 453, 454, 455, 456, 457, 458, 459, 460, 461, 181, 462, 463, 464, 465, 182, 466, 467, 468, 469, 695, 696, 697, 698, 699, 700, 701, 702, 703, 704, 705, 706] (by decide +kernel) (by decide +kernel)
set_option maxRecDepth 100000 in
theorem gL_law_X6_zone : GoodIn wsL_law (wsV RL 84 RX6 yX6_zone wsX6_zone) := goodIn_app (goodIn_of _ (by decide +kernel)) ggL_law_X6_zone
set_option maxRecDepth 100000 in
theorem ggL_law_X5_effect : GoodIn wsL_law wsX5_effect := goodIn_r _ [670, 23, 671, 672, 673, 674, 499, 28, 675, 353, 494, 204, 154, 2, 155, 543, 333, 334, 635, 396, 397, 27, 398, 393, 266, 399, 676, 433, 434, 22, 435, 57, 56, 436, 355, 356, 357, 358, 359, 360, 690, 691, 692, 693, 694, 713, 714, 715, 716, 717, 718, 719, 720, 721, 722, 723, 724, 725, 726, 727, 728, 729, 730, 731, 732, 733, 734, 735, 736, 737, 738] (by decide +kernel) (by decide +kernel)
set_option maxRecDepth 100000 in
theorem gL_law_X5_effect : GoodIn wsL_law (wsV RL 85 RX5 yX5_effect wsX5_effect) := goodIn_app (goodIn_of _ (by decide +kernel)) ggL_law_X5_effect
set_option maxRecDepth 100000 in
theorem ggL_law_X6_effect : GoodIn wsL_law wsX6_effect := goodIn_r _ [680, 177, 681, 179, 212, 213, 5, 214, 486, 487, 488, 489, 482, 483, 484, 485, 695, 696, 697, 698, 699, 700, 701, 702, 703, 704, 705, 706] (by decide +kernel) (by decide +kernel)
set_option maxRecDepth 100000 in
theorem gL_law_X6_effect : GoodIn wsL_law (wsV RL 88 RX6 yX6_effect wsX6_effect) := goodIn_app (goodIn_of _ (by decide +kernel)) ggL_law_X6_effect
set_option maxRecDepth 100000 in
theorem ggL_law_X5_count : GoodIn wsL_law wsX5_count := goodIn_r _ [685, 23, 250, 671, 28, 374, 353, 494, 373, 352, 19, 525, 15, 203, 375, 376, 377, 2, 378, 379, 380, 381, 382, 383, 384, 385, 386, 387, 388, 333, 334, 354, 355, 356, 357, 358, 359, 360, 635, 396, 397, 27, 398, 393, 266, 399, 495, 496, 497, 498, 499, 690, 691, 692, 693, 694, 713, 714, 715, 716, 717, 718, 719, 720, 721, 722, 723, 724, 725, 726, 727, 728, 729, 730, 731, 732, 733, 734, 735, 736, 737, 738, 711, 712, 707, 708, 709, 710] (by decide +kernel) (by decide +kernel)
set_option maxRecDepth 100000 in
theorem gL_law_X5_count : GoodIn wsL_law (wsV RL 89 RX5 yX5_count wsX5_count) := goodIn_app (goodIn_of _ (by decide +kernel)) ggL_law_X5_count
set_option maxRecDepth 100000 in
theorem ggL_law_X6_count : GoodIn wsL_law wsX6_count := goodIn_r _ [689, 177, 179, 198, 211, 482, 483, 484, 5, 485, 601, 602, 603, 604, 446, 447, 448, 449, 450, 451, 452, 453, 454, 455, 456, 457, 458, 459, 460, 461, 181, 462, 463, 464, 465, 182, 466, 467, 468, 469, 365, 366, 367, 368, 504, 505, 506, 507, 508, 509, 510, 511, 695, 696, 697, 698, 699, 700, 701, 702, 703, 704, 705, 706] (by decide +kernel) (by decide +kernel)
set_option maxRecDepth 100000 in
theorem gL_law_X6_count : GoodIn wsL_law (wsV RL 92 RX6 yX6_count wsX6_count) := goodIn_app (goodIn_of _ (by decide +kernel)) ggL_law_X6_count
