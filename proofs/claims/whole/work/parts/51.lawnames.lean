set_option maxRecDepth 20000 in
theorem ggL_law_X4_init : GoodIn wsL_law wsX4_init := goodIn_r _ [8, 9, 10, 11, 12, 13, 14, 15, 16, 17, 18, 19, 20, 21, 22, 23, 24, 25, 26, 27, 28, 29, 30, 31, 32, 33, 34, 35, 36, 37, 38, 39, 40, 41, 42, 43, 44, 45, 46, 47, 48, 49, 50, 51, 52, 53, 54, 55, 56, 57, 58, 59, 60, 61, 62, 63, 64, 65, 66, 67, 68, 69, 70, 71, 72, 73, 74, 756, 757, 758, 759, 760, 761, 762, 763, 717, 718, 719, 720, 721, 722, 723, 724, 725, 726, 727, 764, 765, 766, 767, 768, 769, 770, 771, 772, 773, 774, 775, 776, 777, 778, 779] (by decide +kernel) (by decide +kernel)
set_option maxRecDepth 20000 in
theorem gL_law_X4_init : GoodIn wsL_law (wsX4_init) := ggL_law_X4_init
set_option maxRecDepth 20000 in
theorem ggL_law_X5_init : GoodIn wsL_law wsX5_init := goodIn_r _ [77, 78, 10, 11, 79, 80, 38, 81, 82, 83, 84, 85, 86, 87, 88, 89, 90, 91, 92, 93, 94, 95, 96, 97, 98, 99, 5, 100, 101, 102, 103, 104, 728, 729, 730, 731, 732, 733, 734, 735, 736, 737, 738, 739, 740, 741, 742, 743, 744, 745, 746, 747, 748, 749, 750, 751, 752, 753, 754, 755] (by decide +kernel) (by decide +kernel)
set_option maxRecDepth 20000 in
theorem gL_law_X5_init : GoodIn wsL_law (wsX5_init) := ggL_law_X5_init
set_option maxRecDepth 20000 in
theorem ggL_law_X4_pass : GoodIn wsL_law wsX4_pass := goodIn_r _ [108, 28, 109, 110, 111, 2, 112, 23, 27, 113, 22, 114, 115, 53, 55, 116, 117, 118, 119, 120, 121, 122, 123, 56, 124, 125, 126, 127, 128, 129, 130, 131, 132, 133, 134, 135, 60, 54, 72, 14, 73, 74, 40, 39, 41, 42, 43, 136, 137, 138, 139, 63, 58, 62, 64, 61, 140, 17, 141, 142, 49, 48, 143, 144, 145, 146, 47, 147, 148, 149, 150, 151, 26, 152, 153, 71, 70, 154, 155, 156, 157, 68, 69, 158, 159, 160, 161, 30, 31, 18, 29, 162, 163, 164, 165, 34, 717, 718, 719, 720, 721, 722, 723, 724, 725, 726, 727, 764, 765, 766, 767, 768, 769, 770, 771, 772, 773, 774, 775, 756, 757, 758, 759, 760, 761, 762, 763, 776, 777, 778, 779] (by decide +kernel) (by decide +kernel)
set_option maxRecDepth 20000 in
theorem gL_law_X4_pass : GoodIn wsL_law (wsV RL 13 RX4 yX4_pass wsX4_pass) := goodIn_app (goodIn_of _ (by decide +kernel)) ggL_law_X4_pass
set_option maxRecDepth 20000 in
theorem ggL_law_X5_pass : GoodIn wsL_law wsX5_pass := goodIn_r _ [169, 102, 170, 171, 5, 172, 173, 174, 175, 176, 80, 83, 88, 90, 177, 178, 179, 180, 181, 81, 82, 182, 183, 184, 185, 84, 97, 98, 99, 100, 101, 96, 103, 104, 186, 187, 188, 189, 190, 191, 192, 193, 194, 86, 195, 196, 197, 198, 199, 200, 93, 92, 201, 202, 203, 204, 95, 205, 94, 728, 729, 730, 731, 732, 733, 734, 735, 736, 737, 738, 739, 740, 741, 742, 743, 744, 745, 746, 747, 748, 749, 750, 751, 752, 753, 754, 755] (by decide +kernel) (by decide +kernel)
set_option maxRecDepth 20000 in
theorem gL_law_X5_pass : GoodIn wsL_law (wsV RL 17 RX5 yX5_pass wsX5_pass) := goodIn_app (goodIn_of _ (by decide +kernel)) ggL_law_X5_pass
set_option maxRecDepth 20000 in
theorem ggL_law_X4_send : GoodIn wsL_law wsX4_send := goodIn_r _ [209, 23, 28, 210, 211, 2, 212, 213, 214, 215, 216, 217, 218, 219, 29, 30, 220, 22, 221, 222, 57, 53, 116, 117, 118, 119, 223, 224, 225, 226, 62, 227, 228, 229, 230, 231, 232, 233, 234, 54, 136, 137, 138, 139, 63, 58, 64, 61, 140, 17, 141, 142, 49, 48, 143, 144, 145, 146, 47, 128, 129, 130, 131, 55, 56, 147, 148, 149, 150, 60, 72, 14, 73, 74, 40, 39, 41, 42, 43, 235, 236, 237, 238, 59, 239, 240, 241, 242, 717, 718, 719, 720, 721, 722, 723, 724, 725, 726, 727, 764, 765, 766, 767, 768, 769, 770, 771, 772, 773, 774, 775, 761, 762, 763, 756, 757, 758, 759, 760] (by decide +kernel) (by decide +kernel)
set_option maxRecDepth 20000 in
theorem gL_law_X4_send : GoodIn wsL_law (wsV RL 18 RX4 yX4_send wsX4_send) := goodIn_app (goodIn_of _ (by decide +kernel)) ggL_law_X4_send
set_option maxRecDepth 20000 in
theorem ggL_law_X5_send : GoodIn wsL_law wsX5_send := goodIn_r _ [246, 80, 247, 248, 5, 249, 170, 171, 172, 250, 251, 252, 253, 254, 255, 256, 94, 95, 257, 258, 259, 260, 261, 262, 263, 264, 81, 265, 266, 267, 268, 85, 269, 270, 271, 272, 102, 82, 273, 274, 275, 276, 86, 190, 191, 192, 193, 194, 195, 196, 197, 198, 199, 200, 93, 92, 182, 183, 184, 185, 83, 84, 97, 98, 99, 100, 101, 96, 103, 104, 277, 278, 279, 280, 87, 728, 729, 730, 731, 732, 733, 734, 735, 736, 737, 738, 739, 740, 741, 742, 743, 744, 745, 746, 747, 748, 749, 750, 751, 752, 753, 754, 755] (by decide +kernel) (by decide +kernel)
set_option maxRecDepth 20000 in
theorem gL_law_X5_send : GoodIn wsL_law (wsV RL 22 RX5 yX5_send wsX5_send) := goodIn_app (goodIn_of _ (by decide +kernel)) ggL_law_X5_send
set_option maxRecDepth 20000 in
theorem ggL_law_X4_route : GoodIn wsL_law wsX4_route := goodIn_r _ [284, 23, 28, 33, 285, 286, 2, 287, 213, 214, 215, 288, 289, 290, 291, 19, 27, 292, 17, 293, 294, 48, 295, 296, 297, 298, 49, 47, 299, 26, 300, 301, 68, 302, 303, 304, 305, 71, 306, 307, 308, 309, 69, 310, 22, 311, 312, 53, 313, 314, 315, 316, 317, 318, 319, 320, 321, 322, 323, 220, 221, 222, 57, 116, 117, 118, 119, 223, 224, 225, 226, 62, 227, 228, 229, 230, 231, 232, 233, 234, 54, 136, 137, 138, 139, 63, 58, 64, 61, 140, 141, 142, 143, 144, 145, 146, 128, 129, 130, 131, 55, 56, 147, 148, 149, 150, 60, 72, 14, 73, 74, 40, 39, 41, 42, 43, 235, 236, 237, 238, 59, 239, 240, 241, 242, 717, 718, 719, 720, 721, 722, 723, 724, 725, 726, 727, 761, 762, 763, 776, 777, 778, 779, 764, 765, 766, 767, 768, 769, 770, 771, 772, 773, 774, 775, 756, 757, 758, 759, 760] (by decide +kernel) (by decide +kernel)
set_option maxRecDepth 20000 in
theorem gL_law_X4_route : GoodIn wsL_law (wsV RL 23 RX4 yX4_route wsX4_route) := goodIn_app (goodIn_of _ (by decide +kernel)) ggL_law_X4_route
set_option maxRecDepth 20000 in
theorem ggL_law_X5_route : GoodIn wsL_law wsX5_route := goodIn_r _ [327, 80, 91, 328, 329, 5, 330, 170, 171, 172, 250, 251, 252, 331, 332, 333, 334, 200, 93, 335, 336, 337, 338, 92, 339, 340, 341, 342, 88, 343, 344, 345, 346, 347, 348, 349, 350, 351, 352, 353, 354, 355, 356, 357, 358, 89, 359, 360, 361, 362, 81, 363, 364, 365, 366, 257, 258, 259, 260, 261, 262, 263, 264, 265, 266, 267, 268, 85, 269, 270, 271, 272, 102, 82, 273, 274, 275, 276, 86, 190, 191, 192, 193, 194, 195, 196, 197, 198, 199, 182, 183, 184, 185, 83, 84, 97, 98, 99, 100, 101, 96, 103, 104, 277, 278, 279, 280, 87, 728, 729, 730, 731, 732, 733, 734, 735, 736, 737, 738, 739, 740, 741, 742, 743, 744, 745, 746, 747, 748, 749, 750, 751, 752, 753, 754, 755] (by decide +kernel) (by decide +kernel)
set_option maxRecDepth 20000 in
theorem gL_law_X5_route : GoodIn wsL_law (wsV RL 26 RX5 yX5_route wsX5_route) := goodIn_app (goodIn_of _ (by decide +kernel)) ggL_law_X5_route
set_option maxRecDepth 20000 in
theorem ggL_law_X4_hint : GoodIn wsL_law wsX4_hint := goodIn_r _ [370, 23, 28, 210, 211, 2, 212, 371, 22, 372, 373, 374, 310, 311, 312, 53, 375, 376, 377, 378, 128, 129, 130, 131, 55, 56, 379, 380, 381, 382, 116, 117, 118, 119, 717, 718, 719, 720, 721, 722, 723, 724, 725, 726, 727, 764, 765, 766, 767, 768, 769, 770, 771, 772, 773, 774, 775] (by decide +kernel) (by decide +kernel)
set_option maxRecDepth 20000 in
theorem gL_law_X4_hint : GoodIn wsL_law (wsV RL 27 RX4 yX4_hint wsX4_hint) := goodIn_app (goodIn_of _ (by decide +kernel)) ggL_law_X4_hint
set_option maxRecDepth 20000 in
theorem ggL_law_X5_hint : GoodIn wsL_law wsX5_hint := goodIn_r _ [386, 80, 81, 247, 248, 5, 249, 170, 171, 172, 182, 183, 184, 185, 83, 102, 84, 728, 729, 730, 731, 732, 733, 734, 735, 736, 737, 738, 739, 740, 741, 742, 743, 744, 745, 746, 747, 748, 749, 750, 751, 752, 753, 754, 755] (by decide +kernel) (by decide +kernel)
set_option maxRecDepth 20000 in
theorem gL_law_X5_hint : GoodIn wsL_law (wsV RL 30 RX5 yX5_hint wsX5_hint) := goodIn_app (goodIn_of _ (by decide +kernel)) ggL_law_X5_hint
set_option maxRecDepth 20000 in
theorem ggL_law_X4_answered : GoodIn wsL_law wsX4_answered := goodIn_r _ [390, 30, 23, 28, 27, 210, 211, 2, 212, 391, 392, 393, 394, 395, 396, 397, 32, 117, 22, 118, 119, 53, 398, 399, 400, 54, 401, 402, 403, 404, 375, 376, 377, 378, 128, 129, 130, 131, 55, 56, 124, 125, 126, 127, 405, 406, 407, 408, 58, 59, 239, 240, 241, 242, 60, 72, 14, 73, 74, 40, 39, 41, 42, 43, 409, 410, 411, 412, 413, 414, 415, 416, 417, 26, 418, 419, 420, 421, 422, 423, 71, 68, 154, 155, 156, 157, 69, 70, 380, 381, 382, 116, 717, 718, 719, 720, 721, 722, 723, 724, 725, 726, 727, 764, 765, 766, 767, 768, 769, 770, 771, 772, 773, 774, 775, 756, 757, 758, 759, 760, 776, 777, 778, 779] (by decide +kernel) (by decide +kernel)
set_option maxRecDepth 20000 in
theorem gL_law_X4_answered : GoodIn wsL_law (wsV RL 31 RX4 yX4_answered wsX4_answered) := goodIn_app (goodIn_of _ (by decide +kernel)) ggL_law_X4_answered
set_option maxRecDepth 20000 in
theorem ggL_law_X5_answered : GoodIn wsL_law wsX5_answered := goodIn_r _ [427, 95, 428, 80, 81, 88, 247, 248, 5, 249, 170, 171, 172, 429, 430, 431, 432, 433, 434, 435, 82, 182, 183, 184, 185, 83, 102, 84, 436, 437, 438, 439, 86, 87, 97, 98, 99, 100, 101, 96, 103, 104, 440, 441, 442, 443, 444, 445, 446, 447, 728, 729, 730, 731, 732, 733, 734, 735, 736, 737, 738, 739, 740, 741, 742, 743, 744, 745, 746, 747, 748, 749, 750, 751, 752, 753, 754, 755] (by decide +kernel) (by decide +kernel)
set_option maxRecDepth 20000 in
theorem gL_law_X5_answered : GoodIn wsL_law (wsV RL 35 RX5 yX5_answered wsX5_answered) := goodIn_app (goodIn_of _ (by decide +kernel)) ggL_law_X5_answered
set_option maxRecDepth 20000 in
theorem ggL_law_X4_asks : GoodIn wsL_law wsX4_asks := goodIn_r _ [451, 29, 30, 210, 211, 2, 212, 391, 392, 393, 216, 217, 218, 219, 452, 453, 454, 455, 18, 28, 23, 72, 14, 73, 74, 40, 39, 41, 42, 43, 456, 22, 457, 458, 53, 54, 116, 117, 118, 119, 223, 224, 225, 226, 62, 227, 228, 229, 230, 57, 231, 232, 233, 234, 136, 137, 138, 139, 63, 58, 64, 61, 140, 17, 141, 142, 49, 48, 143, 144, 145, 146, 47, 128, 129, 130, 131, 55, 56, 401, 402, 403, 404, 375, 376, 377, 378, 124, 125, 126, 127, 405, 406, 407, 408, 59, 239, 240, 241, 242, 60, 413, 414, 415, 416, 394, 395, 396, 397, 32, 717, 718, 719, 720, 721, 722, 723, 724, 725, 726, 727, 756, 757, 758, 759, 760, 764, 765, 766, 767, 768, 769, 770, 771, 772, 773, 774, 775, 761, 762, 763] (by decide +kernel) (by decide +kernel)
set_option maxRecDepth 20000 in
theorem gL_law_X4_asks : GoodIn wsL_law (wsV RL 36 RX4 yX4_asks wsX4_asks) := goodIn_app (goodIn_of _ (by decide +kernel)) ggL_law_X4_asks
set_option maxRecDepth 20000 in
theorem ggL_law_X5_asks : GoodIn wsL_law wsX5_asks := goodIn_r _ [462, 94, 95, 428, 170, 171, 5, 172, 429, 430, 431, 247, 248, 249, 253, 254, 255, 256, 463, 464, 465, 466, 467, 468, 469, 470, 80, 81, 82, 257, 258, 259, 260, 261, 262, 263, 264, 265, 266, 267, 268, 85, 273, 274, 275, 276, 102, 86, 190, 191, 192, 193, 194, 195, 196, 197, 198, 199, 200, 93, 92, 182, 183, 184, 185, 83, 84, 436, 437, 438, 439, 87, 97, 98, 99, 100, 101, 96, 103, 104, 728, 729, 730, 731, 732, 733, 734, 735, 736, 737, 738, 739, 740, 741, 742, 743, 744, 745, 746, 747, 748, 749, 750, 751, 752, 753, 754, 755] (by decide +kernel) (by decide +kernel)
set_option maxRecDepth 20000 in
theorem gL_law_X5_asks : GoodIn wsL_law (wsV RL 40 RX5 yX5_asks wsX5_asks) := goodIn_app (goodIn_of _ (by decide +kernel)) ggL_law_X5_asks
set_option maxRecDepth 20000 in
theorem ggL_law_X4_told : GoodIn wsL_law wsX4_told := goodIn_r _ [474, 27, 23, 28, 34, 210, 211, 2, 212, 391, 392, 393, 216, 217, 218, 219, 29, 30, 475, 26, 476, 477, 71, 478, 479, 480, 481, 420, 421, 422, 423, 68, 456, 22, 457, 458, 53, 54, 116, 117, 118, 119, 223, 224, 225, 226, 62, 227, 228, 229, 230, 57, 231, 232, 233, 234, 136, 137, 138, 139, 63, 58, 64, 61, 140, 17, 141, 142, 49, 48, 143, 144, 145, 146, 47, 128, 129, 130, 131, 55, 56, 401, 402, 403, 404, 375, 376, 377, 378, 124, 125, 126, 127, 405, 406, 407, 408, 59, 239, 240, 241, 242, 60, 72, 14, 73, 74, 40, 39, 41, 42, 43, 413, 414, 415, 416, 482, 483, 484, 69, 70, 417, 418, 419, 154, 155, 156, 157, 485, 486, 487, 717, 718, 719, 720, 721, 722, 723, 724, 725, 726, 727, 776, 777, 778, 779, 764, 765, 766, 767, 768, 769, 770, 771, 772, 773, 774, 775, 761, 762, 763, 756, 757, 758, 759, 760] (by decide +kernel) (by decide +kernel)
set_option maxRecDepth 20000 in
theorem gL_law_X4_told : GoodIn wsL_law (wsV RL 41 RX4 yX4_told wsX4_told) := goodIn_app (goodIn_of _ (by decide +kernel)) ggL_law_X4_told
set_option maxRecDepth 20000 in
theorem ggL_law_X5_told : GoodIn wsL_law wsX5_told := goodIn_r _ [491, 88, 177, 89, 90, 102, 247, 248, 5, 249, 170, 171, 172, 429, 430, 431, 253, 254, 255, 256, 94, 95, 339, 340, 341, 342, 467, 468, 469, 470, 80, 81, 82, 257, 258, 259, 260, 261, 262, 263, 264, 265, 266, 267, 268, 85, 273, 274, 275, 276, 86, 190, 191, 192, 193, 194, 195, 196, 197, 198, 199, 200, 93, 92, 182, 183, 184, 185, 83, 84, 436, 437, 438, 439, 87, 97, 98, 99, 100, 101, 96, 103, 104, 728, 729, 730, 731, 732, 733, 734, 735, 736, 737, 738, 739, 740, 741, 742, 743, 744, 745, 746, 747, 748, 749, 750, 751, 752, 753, 754, 755] (by decide +kernel) (by decide +kernel)
set_option maxRecDepth 20000 in
theorem gL_law_X5_told : GoodIn wsL_law (wsV RL 45 RX5 yX5_told wsX5_told) := goodIn_app (goodIn_of _ (by decide +kernel)) ggL_law_X5_told
set_option maxRecDepth 20000 in
theorem ggL_law_X4_better : GoodIn wsL_law wsX4_better := goodIn_r _ [495, 19, 210, 211, 2, 212, 285, 286, 287, 216, 217, 218, 219, 29, 30, 496, 497, 498, 499, 288, 289, 290, 291, 27, 23, 292, 17, 293, 294, 48, 295, 296, 297, 298, 49, 47, 299, 26, 300, 301, 68, 302, 303, 304, 305, 71, 306, 307, 308, 309, 69, 310, 22, 311, 312, 53, 313, 314, 315, 316, 317, 318, 319, 320, 33, 321, 322, 323, 500, 501, 502, 143, 144, 145, 146, 717, 718, 719, 720, 721, 722, 723, 724, 725, 726, 727, 761, 762, 763, 776, 777, 778, 779, 764, 765, 766, 767, 768, 769, 770, 771, 772, 773, 774, 775] (by decide +kernel) (by decide +kernel)
set_option maxRecDepth 20000 in
theorem gL_law_X4_better : GoodIn wsL_law (wsV RL 46 RX4 yX4_better wsX4_better) := goodIn_app (goodIn_of _ (by decide +kernel)) ggL_law_X4_better
set_option maxRecDepth 20000 in
theorem ggL_law_X5_better : GoodIn wsL_law wsX5_better := goodIn_r _ [506, 247, 248, 5, 249, 170, 171, 172, 328, 329, 330, 253, 254, 255, 256, 94, 95, 331, 332, 333, 334, 200, 93, 335, 336, 337, 338, 92, 339, 340, 341, 342, 88, 343, 344, 345, 346, 347, 348, 349, 350, 351, 352, 353, 354, 355, 356, 357, 358, 89, 359, 360, 361, 362, 80, 81, 363, 364, 365, 366, 91, 507, 508, 509, 510, 728, 729, 730, 731, 732, 733, 734, 735, 736, 737, 738, 739, 740, 741, 742, 743, 744, 745, 746, 747, 748, 749, 750, 751, 752, 753, 754, 755] (by decide +kernel) (by decide +kernel)
set_option maxRecDepth 20000 in
theorem gL_law_X5_better : GoodIn wsL_law (wsV RL 49 RX5 yX5_better wsX5_better) := goodIn_app (goodIn_of _ (by decide +kernel)) ggL_law_X5_better
set_option maxRecDepth 20000 in
theorem ggL_law_X4_claim : GoodIn wsL_law wsX4_claim := goodIn_r _ [514, 29, 30, 28, 31, 18, 210, 211, 2, 212, 515, 516, 517, 518, 32, 23, 27, 19, 117, 22, 118, 119, 53, 479, 26, 480, 481, 420, 421, 422, 423, 71, 68, 519, 17, 520, 521, 49, 48, 72, 14, 73, 74, 40, 39, 41, 42, 43, 717, 718, 719, 720, 721, 722, 723, 724, 725, 726, 727, 764, 765, 766, 767, 768, 769, 770, 771, 772, 773, 774, 775, 776, 777, 778, 779, 761, 762, 763, 756, 757, 758, 759, 760] (by decide +kernel) (by decide +kernel)
set_option maxRecDepth 20000 in
theorem gL_law_X4_claim : GoodIn wsL_law (wsV RL 50 RX4 yX4_claim wsX4_claim) := goodIn_app (goodIn_of _ (by decide +kernel)) ggL_law_X4_claim
set_option maxRecDepth 20000 in
theorem ggL_law_X5_claim : GoodIn wsL_law wsX5_claim := goodIn_r _ [525, 80, 88, 428, 94, 95, 102, 205, 247, 248, 5, 249, 170, 171, 172, 526, 527, 528, 529, 200, 93, 97, 98, 99, 100, 101, 96, 103, 104, 728, 729, 730, 731, 732, 733, 734, 735, 736, 737, 738, 739, 740, 741, 742, 743, 744, 745, 746, 747, 748, 749, 750, 751, 752, 753, 754, 755] (by decide +kernel) (by decide +kernel)
set_option maxRecDepth 20000 in
theorem gL_law_X5_claim : GoodIn wsL_law (wsV RL 53 RX5 yX5_claim wsX5_claim) := goodIn_app (goodIn_of _ (by decide +kernel)) ggL_law_X5_claim
set_option maxRecDepth 20000 in
theorem ggL_law_X4_give : GoodIn wsL_law wsX4_give := goodIn_r _ [533, 29, 30, 717, 718, 719, 720, 721, 722, 723, 724, 725, 726, 727] (by decide +kernel) (by decide +kernel)
set_option maxRecDepth 20000 in
theorem gL_law_X4_give : GoodIn wsL_law (wsV RL 54 RX4 yX4_give wsX4_give) := goodIn_app (goodIn_of _ (by decide +kernel)) ggL_law_X4_give
set_option maxRecDepth 20000 in
theorem ggL_law_X5_give : GoodIn wsL_law wsX5_give := goodIn_r _ [537, 94, 95, 728, 729, 730, 731, 732, 733, 734, 735, 736, 737, 738, 739, 740, 741, 742, 743, 744, 745, 746, 747, 748, 749, 750, 751, 752, 753, 754, 755] (by decide +kernel) (by decide +kernel)
set_option maxRecDepth 20000 in
theorem gL_law_X5_give : GoodIn wsL_law (wsV RL 58 RX5 yX5_give wsX5_give) := goodIn_app (goodIn_of _ (by decide +kernel)) ggL_law_X5_give
set_option maxRecDepth 20000 in
theorem ggL_law_X4_entry : GoodIn wsL_law wsX4_entry := goodIn_r _ [541, 23, 27, 117, 22, 118, 119, 53, 479, 26, 480, 481, 420, 421, 422, 423, 71, 68, 542, 543, 544, 54, 55, 56, 58, 57, 545, 546, 547, 548, 717, 718, 719, 720, 721, 722, 723, 724, 725, 726, 727, 764, 765, 766, 767, 768, 769, 770, 771, 772, 773, 774, 775, 776, 777, 778, 779] (by decide +kernel) (by decide +kernel)
set_option maxRecDepth 20000 in
theorem gL_law_X4_entry : GoodIn wsL_law (wsV RL 59 RX4 yX4_entry wsX4_entry) := goodIn_app (goodIn_of _ (by decide +kernel)) ggL_law_X4_entry
set_option maxRecDepth 20000 in
theorem ggL_law_X5_entry : GoodIn wsL_law wsX5_entry := goodIn_r _ [552, 553, 554, 555, 5, 556, 80, 247, 248, 249, 170, 171, 172, 557, 558, 559, 560, 81, 82, 83, 84, 86, 88, 85, 561, 562, 563, 564, 728, 729, 730, 731, 732, 733, 734, 735, 736, 737, 738, 739, 740, 741, 742, 743, 744, 745, 746, 747, 748, 749, 750, 751, 752, 753, 754, 755] (by decide +kernel) (by decide +kernel)
set_option maxRecDepth 20000 in
theorem gL_law_X5_entry : GoodIn wsL_law (wsV RL 62 RX5 yX5_entry wsX5_entry) := goodIn_app (goodIn_of _ (by decide +kernel)) ggL_law_X5_entry
set_option maxRecDepth 20000 in
theorem ggL_law_X4_held : GoodIn wsL_law wsX4_held := goodIn_r _ [568, 23, 569, 22, 570, 571, 59, 572, 573, 574, 575, 58, 116, 117, 118, 119, 53, 717, 718, 719, 720, 721, 722, 723, 724, 725, 726, 727, 764, 765, 766, 767, 768, 769, 770, 771, 772, 773, 774, 775] (by decide +kernel) (by decide +kernel)
set_option maxRecDepth 20000 in
theorem gL_law_X4_held : GoodIn wsL_law (wsV RL 63 RX4 yX4_held wsX4_held) := goodIn_app (goodIn_of _ (by decide +kernel)) ggL_law_X4_held
set_option maxRecDepth 20000 in
theorem ggL_law_X5_held : GoodIn wsL_law wsX5_held := goodIn_r _ [579, 86, 87, 553, 554, 555, 5, 556, 80, 247, 248, 249, 170, 171, 172, 728, 729, 730, 731, 732, 733, 734, 735, 736, 737, 738, 739, 740, 741, 742, 743, 744, 745, 746, 747, 748, 749, 750, 751, 752, 753, 754, 755] (by decide +kernel) (by decide +kernel)
set_option maxRecDepth 20000 in
theorem gL_law_X5_held : GoodIn wsL_law (wsV RL 66 RX5 yX5_held wsX5_held) := goodIn_app (goodIn_of _ (by decide +kernel)) ggL_law_X5_held
set_option maxRecDepth 20000 in
theorem ggL_law_X4_router : GoodIn wsL_law wsX4_router := goodIn_r _ [583, 27, 23, 303, 26, 304, 305, 71, 306, 307, 308, 309, 68, 69, 310, 22, 311, 312, 53, 314, 315, 316, 584, 585, 586, 70, 717, 718, 719, 720, 721, 722, 723, 724, 725, 726, 727, 776, 777, 778, 779, 764, 765, 766, 767, 768, 769, 770, 771, 772, 773, 774, 775] (by decide +kernel) (by decide +kernel)
set_option maxRecDepth 20000 in
theorem gL_law_X4_router : GoodIn wsL_law (wsV RL 67 RX4 yX4_router wsX4_router) := goodIn_app (goodIn_of _ (by decide +kernel)) ggL_law_X4_router
set_option maxRecDepth 20000 in
theorem ggL_law_X5_router : GoodIn wsL_law wsX5_router := goodIn_r _ [590, 339, 340, 341, 5, 342, 88, 170, 171, 172, 347, 348, 349, 350, 351, 352, 353, 354, 355, 356, 357, 358, 89, 359, 360, 361, 362, 80, 81, 591, 592, 593, 594, 90, 728, 729, 730, 731, 732, 733, 734, 735, 736, 737, 738, 739, 740, 741, 742, 743, 744, 745, 746, 747, 748, 749, 750, 751, 752, 753, 754, 755] (by decide +kernel) (by decide +kernel)
set_option maxRecDepth 20000 in
theorem gL_law_X5_router : GoodIn wsL_law (wsV RL 70 RX5 yX5_router wsX5_router) := goodIn_app (goodIn_of _ (by decide +kernel)) ggL_law_X5_router
set_option maxRecDepth 20000 in
theorem ggL_law_X4_hop : GoodIn wsL_law wsX4_hop := goodIn_r _ [499, 285, 286, 2, 287, 288, 289, 290, 291, 19, 27, 23, 292, 17, 293, 294, 48, 295, 296, 297, 298, 49, 47, 299, 26, 300, 301, 68, 302, 303, 304, 305, 71, 306, 307, 308, 309, 69, 310, 22, 311, 312, 53, 313, 314, 315, 316, 317, 318, 319, 320, 33, 321, 322, 323, 717, 718, 719, 720, 721, 722, 723, 724, 725, 726, 727, 761, 762, 763, 776, 777, 778, 779, 764, 765, 766, 767, 768, 769, 770, 771, 772, 773, 774, 775] (by decide +kernel) (by decide +kernel)
set_option maxRecDepth 20000 in
theorem gL_law_X4_hop : GoodIn wsL_law (wsV RL 71 RX4 yX4_hop wsX4_hop) := goodIn_app (goodIn_of _ (by decide +kernel)) ggL_law_X4_hop
set_option maxRecDepth 20000 in
theorem ggL_law_X5_hop : GoodIn wsL_law wsX5_hop := goodIn_r _ [599, 328, 329, 5, 330, 170, 171, 172, 331, 332, 333, 334, 200, 93, 335, 336, 337, 338, 92, 339, 340, 341, 342, 88, 343, 344, 345, 346, 347, 348, 349, 350, 351, 352, 353, 354, 355, 356, 357, 358, 89, 359, 360, 361, 362, 80, 81, 363, 364, 365, 366, 91, 728, 729, 730, 731, 732, 733, 734, 735, 736, 737, 738, 739, 740, 741, 742, 743, 744, 745, 746, 747, 748, 749, 750, 751, 752, 753, 754, 755] (by decide +kernel) (by decide +kernel)
set_option maxRecDepth 20000 in
theorem gL_law_X5_hop : GoodIn wsL_law (wsV RL 74 RX5 yX5_hop wsX5_hop) := goodIn_app (goodIn_of _ (by decide +kernel)) ggL_law_X5_hop
set_option maxRecDepth 20000 in
theorem ggL_law_X4_out : GoodIn wsL_law wsX4_out := goodIn_r _ [603, 18, 604, 14, 605, 606, 41, 40, 39, 717, 718, 719, 720, 721, 722, 723, 724, 725, 726, 727, 756, 757, 758, 759, 760] (by decide +kernel) (by decide +kernel)
set_option maxRecDepth 20000 in
theorem gL_law_X4_out : GoodIn wsL_law (wsV RL 75 RX4 yX4_out wsX4_out) := goodIn_app (goodIn_of _ (by decide +kernel)) ggL_law_X4_out
set_option maxRecDepth 20000 in
theorem ggL_law_X5_out : GoodIn wsL_law wsX5_out := goodIn_r _ [610, 101, 96, 170, 171, 5, 172, 728, 729, 730, 731, 732, 733, 734, 735, 736, 737, 738, 739, 740, 741, 742, 743, 744, 745, 746, 747, 748, 749, 750, 751, 752, 753, 754, 755] (by decide +kernel) (by decide +kernel)
set_option maxRecDepth 20000 in
theorem gL_law_X5_out : GoodIn wsL_law (wsV RL 78 RX5 yX5_out wsX5_out) := goodIn_app (goodIn_of _ (by decide +kernel)) ggL_law_X5_out
set_option maxRecDepth 20000 in
theorem ggL_law_X4_about : GoodIn wsL_law wsX4_about := goodIn_r _ [614, 28, 29, 30, 31, 32, 33, 717, 718, 719, 720, 721, 722, 723, 724, 725, 726, 727] (by decide +kernel) (by decide +kernel)
set_option maxRecDepth 20000 in
theorem gL_law_X4_about : GoodIn wsL_law (wsV RL 79 RX4 yX4_about wsX4_about) := goodIn_app (goodIn_of _ (by decide +kernel)) ggL_law_X4_about
set_option maxRecDepth 20000 in
theorem ggL_law_X5_about : GoodIn wsL_law wsX5_about := goodIn_r _ [618, 170, 171, 5, 172, 619, 620, 621, 622, 102, 94, 95, 205, 428, 91, 728, 729, 730, 731, 732, 733, 734, 735, 736, 737, 738, 739, 740, 741, 742, 743, 744, 745, 746, 747, 748, 749, 750, 751, 752, 753, 754, 755] (by decide +kernel) (by decide +kernel)
set_option maxRecDepth 20000 in
theorem gL_law_X5_about : GoodIn wsL_law (wsV RL 82 RX5 yX5_about wsX5_about) := goodIn_app (goodIn_of _ (by decide +kernel)) ggL_law_X5_about
set_option maxRecDepth 20000 in
theorem ggL_law_X4_count : GoodIn wsL_law wsX4_count := goodIn_r _ [626, 23, 27, 19, 18, 627, 22, 628, 629, 62, 485, 26, 486, 487, 71, 630, 17, 631, 632, 49, 633, 634, 635, 572, 573, 574, 575, 58, 116, 117, 118, 119, 53, 636, 637, 638, 63, 639, 14, 640, 641, 43, 642, 643, 644, 42, 645, 646, 647, 64, 648, 649, 650, 717, 718, 719, 720, 721, 722, 723, 724, 725, 726, 727, 764, 765, 766, 767, 768, 769, 770, 771, 772, 773, 774, 775, 776, 777, 778, 779, 761, 762, 763, 756, 757, 758, 759, 760] (by decide +kernel) (by decide +kernel)
set_option maxRecDepth 20000 in
theorem gL_law_X4_count : GoodIn wsL_law (wsV RL 83 RX4 yX4_count wsX4_count) := goodIn_app (goodIn_of _ (by decide +kernel)) ggL_law_X4_count
set_option maxRecDepth 20000 in
theorem ggL_law_X5_count : GoodIn wsL_law wsX5_count := goodIn_r _ [654, 655, 656, 657, 5, 658, 200, 194, 104, 103, 195, 261, 262, 263, 264, 80, 81, 339, 340, 341, 342, 88, 659, 660, 661, 662, 86, 728, 729, 730, 731, 732, 733, 734, 735, 736, 737, 738, 739, 740, 741, 742, 743, 744, 745, 746, 747, 748, 749, 750, 751, 752, 753, 754, 755] (by decide +kernel) (by decide +kernel)
set_option maxRecDepth 20000 in
theorem gL_law_X5_count : GoodIn wsL_law (wsV RL 86 RX5 yX5_count wsX5_count) := goodIn_app (goodIn_of _ (by decide +kernel)) ggL_law_X5_count
set_option maxRecDepth 20000 in
theorem ggL_law_X4_digest : GoodIn wsL_law wsX4_digest := goodIn_r _ [666, 667, 668, 612, 613, 2, 614, 28, 29, 30, 31, 32, 33, 669, 670, 671, 672, 673, 674, 675, 676, 23, 117, 22, 118, 119, 53, 677, 678, 679, 680, 681, 539, 540, 541, 27, 479, 26, 480, 481, 420, 421, 422, 423, 71, 68, 542, 543, 544, 54, 55, 56, 58, 57, 545, 546, 547, 548, 573, 574, 575, 116, 682, 566, 567, 568, 569, 570, 571, 59, 572, 683, 684, 685, 686, 485, 486, 487, 687, 581, 582, 583, 303, 304, 305, 306, 307, 308, 309, 69, 310, 311, 312, 314, 315, 316, 584, 585, 586, 70, 496, 497, 498, 499, 285, 286, 287, 288, 289, 290, 291, 19, 292, 17, 293, 294, 48, 295, 296, 297, 298, 49, 47, 299, 300, 301, 302, 313, 317, 318, 319, 320, 321, 322, 323, 688, 689, 690, 691, 18, 692, 14, 693, 694, 41, 695, 601, 602, 603, 604, 605, 606, 40, 39, 696, 624, 625, 626, 627, 628, 629, 62, 630, 631, 632, 633, 634, 635, 636, 637, 638, 63, 639, 640, 641, 43, 642, 643, 644, 42, 645, 646, 647, 64, 648, 649, 650, 717, 718, 719, 720, 721, 722, 723, 724, 725, 726, 727, 764, 765, 766, 767, 768, 769, 770, 771, 772, 773, 774, 775, 776, 777, 778, 779, 761, 762, 763, 756, 757, 758, 759, 760] (by decide +kernel) (by decide +kernel)
set_option maxRecDepth 20000 in
theorem gL_law_X4_digest : GoodIn wsL_law (wsV RL 87 RX4 yX4_digest wsX4_digest) := goodIn_app (goodIn_of _ (by decide +kernel)) ggL_law_X4_digest
set_option maxRecDepth 20000 in
theorem ggL_law_X5_digest : GoodIn wsL_law wsX5_digest := goodIn_r _ [700, 701, 702, 101, 96, 619, 620, 621, 5, 622, 102, 94, 95, 205, 428, 91, 703, 704, 705, 706, 707, 708, 709, 710, 711, 80, 712, 86, 87, 557, 558, 559, 560, 81, 82, 83, 84, 88, 85, 561, 562, 563, 564, 713, 714, 715, 716, 339, 340, 341, 342, 347, 348, 349, 350, 351, 352, 353, 354, 355, 356, 357, 358, 89, 359, 360, 361, 362, 591, 592, 593, 594, 90, 331, 332, 333, 334, 200, 93, 335, 336, 337, 338, 92, 343, 344, 345, 346, 363, 364, 365, 366, 655, 656, 657, 658, 194, 104, 103, 195, 261, 262, 263, 264, 659, 660, 661, 662, 728, 729, 730, 731, 732, 733, 734, 735, 736, 737, 738, 739, 740, 741, 742, 743, 744, 745, 746, 747, 748, 749, 750, 751, 752, 753, 754, 755] (by decide +kernel) (by decide +kernel)
set_option maxRecDepth 20000 in
theorem gL_law_X5_digest : GoodIn wsL_law (wsV RL 91 RX5 yX5_digest wsX5_digest) := goodIn_app (goodIn_of _ (by decide +kernel)) ggL_law_X5_digest
theorem dL_law_0 : decode cL_law 0 = .ok (.new 7, 3) := by decide +kernel
theorem dL_law_3 : decode cL_law 3 = .ok (.dup, 1) := by decide +kernel
theorem dL_law_4 : decode cL_law 4 = .ok (.invokespecial 9, 3) := by decide +kernel
theorem dL_law_7 : decode cL_law 7 = .ok (.astore_n 1, 1) := by decide +kernel
theorem dL_law_8 : decode cL_law 8 = .ok (.new 10, 3) := by decide +kernel
theorem dL_law_11 : decode cL_law 11 = .ok (.dup, 1) := by decide +kernel
theorem dL_law_12 : decode cL_law 12 = .ok (.invokespecial 12, 3) := by decide +kernel
theorem dL_law_15 : decode cL_law 15 = .ok (.astore_n 2, 1) := by decide +kernel
theorem dL_law_16 : decode cL_law 16 = .ok (.iconst 0, 1) := by decide +kernel
theorem dL_law_17 : decode cL_law 17 = .ok (.istore_n 3, 1) := by decide +kernel
theorem dL_law_18 : decode cL_law 18 = .ok (.iload_n 3, 1) := by decide +kernel
theorem dL_law_19 : decode cL_law 19 = .ok (.aload_n 0, 1) := by decide +kernel
theorem dL_law_20 : decode cL_law 20 = .ok (.arraylength, 1) := by decide +kernel
theorem dL_law_21 : decode cL_law 21 = .ok (.bipush 6, 2) := by decide +kernel
theorem dL_law_23 : decode cL_law 23 = .ok (.isub, 1) := by decide +kernel
theorem dL_law_24 : decode cL_law 24 = .ok (.if_icmp .gt 715, 3) := by decide +kernel
theorem dL_law_27 : decode cL_law 27 = .ok (.aload_n 0, 1) := by decide +kernel
theorem dL_law_28 : decode cL_law 28 = .ok (.iload_n 3, 1) := by decide +kernel
theorem dL_law_29 : decode cL_law 29 = .ok (.iaload, 1) := by decide +kernel
theorem dL_law_30 : decode cL_law 30 = .ok (.bipush 31, 2) := by decide +kernel
theorem dL_law_32 : decode cL_law 32 = .ok (.iand, 1) := by decide +kernel
theorem dL_law_33 : decode cL_law 33 = .ok (.tableswitch 700 0 17 #[87, 110, 143, 176, 199, 310, 353, 406, 449, 472, 485, 518, 551, 584, 607, 640, 663, 686], 87) := by decide +kernel
theorem dL_law_120 : decode cL_law 120 = .ok (.aload_n 1, 1) := by decide +kernel
theorem dL_law_121 : decode cL_law 121 = .ok (.aload_n 0, 1) := by decide +kernel
theorem dL_law_122 : decode cL_law 122 = .ok (.iload_n 3, 1) := by decide +kernel
theorem dL_law_123 : decode cL_law 123 = .ok (.iconst 1, 1) := by decide +kernel
theorem dL_law_124 : decode cL_law 124 = .ok (.iadd, 1) := by decide +kernel
theorem dL_law_125 : decode cL_law 125 = .ok (.iaload, 1) := by decide +kernel
theorem dL_law_126 : decode cL_law 126 = .ok (.invokevirtual 13, 3) := by decide +kernel
theorem dL_law_129 : decode cL_law 129 = .ok (.aload_n 2, 1) := by decide +kernel
theorem dL_law_130 : decode cL_law 130 = .ok (.aload_n 0, 1) := by decide +kernel
theorem dL_law_131 : decode cL_law 131 = .ok (.iload_n 3, 1) := by decide +kernel
theorem dL_law_132 : decode cL_law 132 = .ok (.iconst 1, 1) := by decide +kernel
theorem dL_law_133 : decode cL_law 133 = .ok (.iadd, 1) := by decide +kernel
theorem dL_law_134 : decode cL_law 134 = .ok (.iaload, 1) := by decide +kernel
theorem dL_law_135 : decode cL_law 135 = .ok (.invokevirtual 17, 3) := by decide +kernel
theorem dL_law_138 : decode cL_law 138 = .ok (.if_icmp .eq 595, 3) := by decide +kernel
theorem dL_law_141 : decode cL_law 141 = .ok (.iconst 0, 1) := by decide +kernel
theorem dL_law_142 : decode cL_law 142 = .ok (.ireturn, 1) := by decide +kernel
theorem dL_law_143 : decode cL_law 143 = .ok (.aload_n 1, 1) := by decide +kernel
theorem dL_law_144 : decode cL_law 144 = .ok (.aload_n 0, 1) := by decide +kernel
theorem dL_law_145 : decode cL_law 145 = .ok (.iload_n 3, 1) := by decide +kernel
theorem dL_law_146 : decode cL_law 146 = .ok (.iconst 1, 1) := by decide +kernel
theorem dL_law_147 : decode cL_law 147 = .ok (.iadd, 1) := by decide +kernel
theorem dL_law_148 : decode cL_law 148 = .ok (.iaload, 1) := by decide +kernel
theorem dL_law_149 : decode cL_law 149 = .ok (.aload_n 0, 1) := by decide +kernel
theorem dL_law_150 : decode cL_law 150 = .ok (.iload_n 3, 1) := by decide +kernel
theorem dL_law_151 : decode cL_law 151 = .ok (.iconst 2, 1) := by decide +kernel
theorem dL_law_152 : decode cL_law 152 = .ok (.iadd, 1) := by decide +kernel
theorem dL_law_153 : decode cL_law 153 = .ok (.iaload, 1) := by decide +kernel
theorem dL_law_154 : decode cL_law 154 = .ok (.invokevirtual 18, 3) := by decide +kernel
theorem dL_law_157 : decode cL_law 157 = .ok (.aload_n 2, 1) := by decide +kernel
theorem dL_law_158 : decode cL_law 158 = .ok (.aload_n 0, 1) := by decide +kernel
theorem dL_law_159 : decode cL_law 159 = .ok (.iload_n 3, 1) := by decide +kernel
theorem dL_law_160 : decode cL_law 160 = .ok (.iconst 1, 1) := by decide +kernel
theorem dL_law_161 : decode cL_law 161 = .ok (.iadd, 1) := by decide +kernel
theorem dL_law_162 : decode cL_law 162 = .ok (.iaload, 1) := by decide +kernel
theorem dL_law_163 : decode cL_law 163 = .ok (.aload_n 0, 1) := by decide +kernel
theorem dL_law_164 : decode cL_law 164 = .ok (.iload_n 3, 1) := by decide +kernel
theorem dL_law_165 : decode cL_law 165 = .ok (.iconst 2, 1) := by decide +kernel
theorem dL_law_166 : decode cL_law 166 = .ok (.iadd, 1) := by decide +kernel
theorem dL_law_167 : decode cL_law 167 = .ok (.iaload, 1) := by decide +kernel
theorem dL_law_168 : decode cL_law 168 = .ok (.invokevirtual 22, 3) := by decide +kernel
theorem dL_law_171 : decode cL_law 171 = .ok (.if_icmp .eq 562, 3) := by decide +kernel
theorem dL_law_174 : decode cL_law 174 = .ok (.iconst 0, 1) := by decide +kernel
theorem dL_law_175 : decode cL_law 175 = .ok (.ireturn, 1) := by decide +kernel
theorem dL_law_176 : decode cL_law 176 = .ok (.aload_n 1, 1) := by decide +kernel
theorem dL_law_177 : decode cL_law 177 = .ok (.aload_n 0, 1) := by decide +kernel
theorem dL_law_178 : decode cL_law 178 = .ok (.iload_n 3, 1) := by decide +kernel
theorem dL_law_179 : decode cL_law 179 = .ok (.iconst 1, 1) := by decide +kernel
theorem dL_law_180 : decode cL_law 180 = .ok (.iadd, 1) := by decide +kernel
theorem dL_law_181 : decode cL_law 181 = .ok (.iaload, 1) := by decide +kernel
theorem dL_law_182 : decode cL_law 182 = .ok (.aload_n 0, 1) := by decide +kernel
theorem dL_law_183 : decode cL_law 183 = .ok (.iload_n 3, 1) := by decide +kernel
theorem dL_law_184 : decode cL_law 184 = .ok (.iconst 2, 1) := by decide +kernel
theorem dL_law_185 : decode cL_law 185 = .ok (.iadd, 1) := by decide +kernel
theorem dL_law_186 : decode cL_law 186 = .ok (.iaload, 1) := by decide +kernel
theorem dL_law_187 : decode cL_law 187 = .ok (.invokevirtual 23, 3) := by decide +kernel
theorem dL_law_190 : decode cL_law 190 = .ok (.aload_n 2, 1) := by decide +kernel
theorem dL_law_191 : decode cL_law 191 = .ok (.aload_n 0, 1) := by decide +kernel
theorem dL_law_192 : decode cL_law 192 = .ok (.iload_n 3, 1) := by decide +kernel
theorem dL_law_193 : decode cL_law 193 = .ok (.iconst 1, 1) := by decide +kernel
theorem dL_law_194 : decode cL_law 194 = .ok (.iadd, 1) := by decide +kernel
theorem dL_law_195 : decode cL_law 195 = .ok (.iaload, 1) := by decide +kernel
theorem dL_law_196 : decode cL_law 196 = .ok (.aload_n 0, 1) := by decide +kernel
theorem dL_law_197 : decode cL_law 197 = .ok (.iload_n 3, 1) := by decide +kernel
theorem dL_law_198 : decode cL_law 198 = .ok (.iconst 2, 1) := by decide +kernel
theorem dL_law_199 : decode cL_law 199 = .ok (.iadd, 1) := by decide +kernel
theorem dL_law_200 : decode cL_law 200 = .ok (.iaload, 1) := by decide +kernel
theorem dL_law_201 : decode cL_law 201 = .ok (.invokevirtual 26, 3) := by decide +kernel
theorem dL_law_204 : decode cL_law 204 = .ok (.if_icmp .eq 529, 3) := by decide +kernel
theorem dL_law_207 : decode cL_law 207 = .ok (.iconst 0, 1) := by decide +kernel
theorem dL_law_208 : decode cL_law 208 = .ok (.ireturn, 1) := by decide +kernel
theorem dL_law_209 : decode cL_law 209 = .ok (.aload_n 1, 1) := by decide +kernel
theorem dL_law_210 : decode cL_law 210 = .ok (.aload_n 0, 1) := by decide +kernel
theorem dL_law_211 : decode cL_law 211 = .ok (.iload_n 3, 1) := by decide +kernel
theorem dL_law_212 : decode cL_law 212 = .ok (.iconst 1, 1) := by decide +kernel
theorem dL_law_213 : decode cL_law 213 = .ok (.iadd, 1) := by decide +kernel
theorem dL_law_214 : decode cL_law 214 = .ok (.iaload, 1) := by decide +kernel
theorem dL_law_215 : decode cL_law 215 = .ok (.invokevirtual 27, 3) := by decide +kernel
theorem dL_law_218 : decode cL_law 218 = .ok (.aload_n 2, 1) := by decide +kernel
theorem dL_law_219 : decode cL_law 219 = .ok (.aload_n 0, 1) := by decide +kernel
theorem dL_law_220 : decode cL_law 220 = .ok (.iload_n 3, 1) := by decide +kernel
theorem dL_law_221 : decode cL_law 221 = .ok (.iconst 1, 1) := by decide +kernel
theorem dL_law_222 : decode cL_law 222 = .ok (.iadd, 1) := by decide +kernel
theorem dL_law_223 : decode cL_law 223 = .ok (.iaload, 1) := by decide +kernel
theorem dL_law_224 : decode cL_law 224 = .ok (.invokevirtual 30, 3) := by decide +kernel
theorem dL_law_227 : decode cL_law 227 = .ok (.if_icmp .eq 506, 3) := by decide +kernel
theorem dL_law_230 : decode cL_law 230 = .ok (.iconst 0, 1) := by decide +kernel
theorem dL_law_231 : decode cL_law 231 = .ok (.ireturn, 1) := by decide +kernel
theorem dL_law_232 : decode cL_law 232 = .ok (.aload_n 1, 1) := by decide +kernel
theorem dL_law_233 : decode cL_law 233 = .ok (.aload_n 0, 1) := by decide +kernel
theorem dL_law_234 : decode cL_law 234 = .ok (.iload_n 3, 1) := by decide +kernel
theorem dL_law_235 : decode cL_law 235 = .ok (.iconst 1, 1) := by decide +kernel
theorem dL_law_236 : decode cL_law 236 = .ok (.iadd, 1) := by decide +kernel
theorem dL_law_237 : decode cL_law 237 = .ok (.iaload, 1) := by decide +kernel
theorem dL_law_238 : decode cL_law 238 = .ok (.aload_n 0, 1) := by decide +kernel
theorem dL_law_239 : decode cL_law 239 = .ok (.iload_n 3, 1) := by decide +kernel
theorem dL_law_240 : decode cL_law 240 = .ok (.iconst 2, 1) := by decide +kernel
theorem dL_law_241 : decode cL_law 241 = .ok (.iadd, 1) := by decide +kernel
theorem dL_law_242 : decode cL_law 242 = .ok (.iaload, 1) := by decide +kernel
theorem dL_law_243 : decode cL_law 243 = .ok (.aload_n 0, 1) := by decide +kernel
theorem dL_law_244 : decode cL_law 244 = .ok (.iload_n 3, 1) := by decide +kernel
theorem dL_law_245 : decode cL_law 245 = .ok (.iconst 3, 1) := by decide +kernel
theorem dL_law_246 : decode cL_law 246 = .ok (.iadd, 1) := by decide +kernel
theorem dL_law_247 : decode cL_law 247 = .ok (.iaload, 1) := by decide +kernel
theorem dL_law_248 : decode cL_law 248 = .ok (.ifCond .eq 7, 3) := by decide +kernel
theorem dL_law_251 : decode cL_law 251 = .ok (.iconst 1, 1) := by decide +kernel
theorem dL_law_252 : decode cL_law 252 = .ok (.goto 4, 3) := by decide +kernel
theorem dL_law_255 : decode cL_law 255 = .ok (.iconst 0, 1) := by decide +kernel
theorem dL_law_256 : decode cL_law 256 = .ok (.aload_n 0, 1) := by decide +kernel
theorem dL_law_257 : decode cL_law 257 = .ok (.iload_n 3, 1) := by decide +kernel
theorem dL_law_258 : decode cL_law 258 = .ok (.iconst 4, 1) := by decide +kernel
theorem dL_law_259 : decode cL_law 259 = .ok (.iadd, 1) := by decide +kernel
theorem dL_law_260 : decode cL_law 260 = .ok (.iaload, 1) := by decide +kernel
theorem dL_law_261 : decode cL_law 261 = .ok (.ifCond .eq 7, 3) := by decide +kernel
theorem dL_law_264 : decode cL_law 264 = .ok (.iconst 1, 1) := by decide +kernel
theorem dL_law_265 : decode cL_law 265 = .ok (.goto 4, 3) := by decide +kernel
theorem dL_law_268 : decode cL_law 268 = .ok (.iconst 0, 1) := by decide +kernel
theorem dL_law_269 : decode cL_law 269 = .ok (.aload_n 0, 1) := by decide +kernel
theorem dL_law_270 : decode cL_law 270 = .ok (.iload_n 3, 1) := by decide +kernel
theorem dL_law_271 : decode cL_law 271 = .ok (.iconst 5, 1) := by decide +kernel
theorem dL_law_272 : decode cL_law 272 = .ok (.iadd, 1) := by decide +kernel
theorem dL_law_273 : decode cL_law 273 = .ok (.iaload, 1) := by decide +kernel
theorem dL_law_274 : decode cL_law 274 = .ok (.ifCond .eq 7, 3) := by decide +kernel
theorem dL_law_277 : decode cL_law 277 = .ok (.iconst 1, 1) := by decide +kernel
theorem dL_law_278 : decode cL_law 278 = .ok (.goto 4, 3) := by decide +kernel
theorem dL_law_281 : decode cL_law 281 = .ok (.iconst 0, 1) := by decide +kernel
theorem dL_law_282 : decode cL_law 282 = .ok (.invokevirtual 31, 3) := by decide +kernel
theorem dL_law_285 : decode cL_law 285 = .ok (.aload_n 2, 1) := by decide +kernel
theorem dL_law_286 : decode cL_law 286 = .ok (.aload_n 0, 1) := by decide +kernel
theorem dL_law_287 : decode cL_law 287 = .ok (.iload_n 3, 1) := by decide +kernel
theorem dL_law_288 : decode cL_law 288 = .ok (.iconst 1, 1) := by decide +kernel
theorem dL_law_289 : decode cL_law 289 = .ok (.iadd, 1) := by decide +kernel
theorem dL_law_290 : decode cL_law 290 = .ok (.iaload, 1) := by decide +kernel
theorem dL_law_291 : decode cL_law 291 = .ok (.aload_n 0, 1) := by decide +kernel
theorem dL_law_292 : decode cL_law 292 = .ok (.iload_n 3, 1) := by decide +kernel
theorem dL_law_293 : decode cL_law 293 = .ok (.iconst 2, 1) := by decide +kernel
theorem dL_law_294 : decode cL_law 294 = .ok (.iadd, 1) := by decide +kernel
theorem dL_law_295 : decode cL_law 295 = .ok (.iaload, 1) := by decide +kernel
theorem dL_law_296 : decode cL_law 296 = .ok (.aload_n 0, 1) := by decide +kernel
theorem dL_law_297 : decode cL_law 297 = .ok (.iload_n 3, 1) := by decide +kernel
theorem dL_law_298 : decode cL_law 298 = .ok (.iconst 3, 1) := by decide +kernel
theorem dL_law_299 : decode cL_law 299 = .ok (.iadd, 1) := by decide +kernel
theorem dL_law_300 : decode cL_law 300 = .ok (.iaload, 1) := by decide +kernel
theorem dL_law_301 : decode cL_law 301 = .ok (.ifCond .eq 7, 3) := by decide +kernel
theorem dL_law_304 : decode cL_law 304 = .ok (.iconst 1, 1) := by decide +kernel
theorem dL_law_305 : decode cL_law 305 = .ok (.goto 4, 3) := by decide +kernel
theorem dL_law_308 : decode cL_law 308 = .ok (.iconst 0, 1) := by decide +kernel
theorem dL_law_309 : decode cL_law 309 = .ok (.aload_n 0, 1) := by decide +kernel
theorem dL_law_310 : decode cL_law 310 = .ok (.iload_n 3, 1) := by decide +kernel
theorem dL_law_311 : decode cL_law 311 = .ok (.iconst 4, 1) := by decide +kernel
theorem dL_law_312 : decode cL_law 312 = .ok (.iadd, 1) := by decide +kernel
theorem dL_law_313 : decode cL_law 313 = .ok (.iaload, 1) := by decide +kernel
theorem dL_law_314 : decode cL_law 314 = .ok (.ifCond .eq 7, 3) := by decide +kernel
theorem dL_law_317 : decode cL_law 317 = .ok (.iconst 1, 1) := by decide +kernel
theorem dL_law_318 : decode cL_law 318 = .ok (.goto 4, 3) := by decide +kernel
theorem dL_law_321 : decode cL_law 321 = .ok (.iconst 0, 1) := by decide +kernel
theorem dL_law_322 : decode cL_law 322 = .ok (.aload_n 0, 1) := by decide +kernel
theorem dL_law_323 : decode cL_law 323 = .ok (.iload_n 3, 1) := by decide +kernel
theorem dL_law_324 : decode cL_law 324 = .ok (.iconst 5, 1) := by decide +kernel
theorem dL_law_325 : decode cL_law 325 = .ok (.iadd, 1) := by decide +kernel
theorem dL_law_326 : decode cL_law 326 = .ok (.iaload, 1) := by decide +kernel
theorem dL_law_327 : decode cL_law 327 = .ok (.ifCond .eq 7, 3) := by decide +kernel
theorem dL_law_330 : decode cL_law 330 = .ok (.iconst 1, 1) := by decide +kernel
theorem dL_law_331 : decode cL_law 331 = .ok (.goto 4, 3) := by decide +kernel
theorem dL_law_334 : decode cL_law 334 = .ok (.iconst 0, 1) := by decide +kernel
theorem dL_law_335 : decode cL_law 335 = .ok (.invokevirtual 35, 3) := by decide +kernel
theorem dL_law_338 : decode cL_law 338 = .ok (.if_icmp .eq 395, 3) := by decide +kernel
theorem dL_law_341 : decode cL_law 341 = .ok (.iconst 0, 1) := by decide +kernel
theorem dL_law_342 : decode cL_law 342 = .ok (.ireturn, 1) := by decide +kernel
theorem dL_law_343 : decode cL_law 343 = .ok (.aload_n 1, 1) := by decide +kernel
theorem dL_law_344 : decode cL_law 344 = .ok (.aload_n 0, 1) := by decide +kernel
theorem dL_law_345 : decode cL_law 345 = .ok (.iload_n 3, 1) := by decide +kernel
theorem dL_law_346 : decode cL_law 346 = .ok (.iconst 1, 1) := by decide +kernel
theorem dL_law_347 : decode cL_law 347 = .ok (.iadd, 1) := by decide +kernel
theorem dL_law_348 : decode cL_law 348 = .ok (.iaload, 1) := by decide +kernel
theorem dL_law_349 : decode cL_law 349 = .ok (.aload_n 0, 1) := by decide +kernel
theorem dL_law_350 : decode cL_law 350 = .ok (.iload_n 3, 1) := by decide +kernel
theorem dL_law_351 : decode cL_law 351 = .ok (.iconst 2, 1) := by decide +kernel
theorem dL_law_352 : decode cL_law 352 = .ok (.iadd, 1) := by decide +kernel
theorem dL_law_353 : decode cL_law 353 = .ok (.iaload, 1) := by decide +kernel
theorem dL_law_354 : decode cL_law 354 = .ok (.aload_n 0, 1) := by decide +kernel
theorem dL_law_355 : decode cL_law 355 = .ok (.iload_n 3, 1) := by decide +kernel
theorem dL_law_356 : decode cL_law 356 = .ok (.iconst 3, 1) := by decide +kernel
theorem dL_law_357 : decode cL_law 357 = .ok (.iadd, 1) := by decide +kernel
theorem dL_law_358 : decode cL_law 358 = .ok (.iaload, 1) := by decide +kernel
theorem dL_law_359 : decode cL_law 359 = .ok (.invokevirtual 36, 3) := by decide +kernel
theorem dL_law_362 : decode cL_law 362 = .ok (.aload_n 2, 1) := by decide +kernel
theorem dL_law_363 : decode cL_law 363 = .ok (.aload_n 0, 1) := by decide +kernel
theorem dL_law_364 : decode cL_law 364 = .ok (.iload_n 3, 1) := by decide +kernel
theorem dL_law_365 : decode cL_law 365 = .ok (.iconst 1, 1) := by decide +kernel
theorem dL_law_366 : decode cL_law 366 = .ok (.iadd, 1) := by decide +kernel
theorem dL_law_367 : decode cL_law 367 = .ok (.iaload, 1) := by decide +kernel
theorem dL_law_368 : decode cL_law 368 = .ok (.aload_n 0, 1) := by decide +kernel
theorem dL_law_369 : decode cL_law 369 = .ok (.iload_n 3, 1) := by decide +kernel
theorem dL_law_370 : decode cL_law 370 = .ok (.iconst 2, 1) := by decide +kernel
theorem dL_law_371 : decode cL_law 371 = .ok (.iadd, 1) := by decide +kernel
theorem dL_law_372 : decode cL_law 372 = .ok (.iaload, 1) := by decide +kernel
theorem dL_law_373 : decode cL_law 373 = .ok (.aload_n 0, 1) := by decide +kernel
theorem dL_law_374 : decode cL_law 374 = .ok (.iload_n 3, 1) := by decide +kernel
theorem dL_law_375 : decode cL_law 375 = .ok (.iconst 3, 1) := by decide +kernel
theorem dL_law_376 : decode cL_law 376 = .ok (.iadd, 1) := by decide +kernel
theorem dL_law_377 : decode cL_law 377 = .ok (.iaload, 1) := by decide +kernel
theorem dL_law_378 : decode cL_law 378 = .ok (.invokevirtual 40, 3) := by decide +kernel
theorem dL_law_381 : decode cL_law 381 = .ok (.if_icmp .eq 352, 3) := by decide +kernel
theorem dL_law_384 : decode cL_law 384 = .ok (.iconst 0, 1) := by decide +kernel
theorem dL_law_385 : decode cL_law 385 = .ok (.ireturn, 1) := by decide +kernel
theorem dL_law_386 : decode cL_law 386 = .ok (.aload_n 1, 1) := by decide +kernel
theorem dL_law_387 : decode cL_law 387 = .ok (.aload_n 0, 1) := by decide +kernel
theorem dL_law_388 : decode cL_law 388 = .ok (.iload_n 3, 1) := by decide +kernel
theorem dL_law_389 : decode cL_law 389 = .ok (.iconst 1, 1) := by decide +kernel
theorem dL_law_390 : decode cL_law 390 = .ok (.iadd, 1) := by decide +kernel
theorem dL_law_391 : decode cL_law 391 = .ok (.iaload, 1) := by decide +kernel
theorem dL_law_392 : decode cL_law 392 = .ok (.aload_n 0, 1) := by decide +kernel
theorem dL_law_393 : decode cL_law 393 = .ok (.iload_n 3, 1) := by decide +kernel
theorem dL_law_394 : decode cL_law 394 = .ok (.iconst 2, 1) := by decide +kernel
theorem dL_law_395 : decode cL_law 395 = .ok (.iadd, 1) := by decide +kernel
theorem dL_law_396 : decode cL_law 396 = .ok (.iaload, 1) := by decide +kernel
theorem dL_law_397 : decode cL_law 397 = .ok (.aload_n 0, 1) := by decide +kernel
theorem dL_law_398 : decode cL_law 398 = .ok (.iload_n 3, 1) := by decide +kernel
theorem dL_law_399 : decode cL_law 399 = .ok (.iconst 3, 1) := by decide +kernel
theorem dL_law_400 : decode cL_law 400 = .ok (.iadd, 1) := by decide +kernel
theorem dL_law_401 : decode cL_law 401 = .ok (.iaload, 1) := by decide +kernel
theorem dL_law_402 : decode cL_law 402 = .ok (.aload_n 0, 1) := by decide +kernel
theorem dL_law_403 : decode cL_law 403 = .ok (.iload_n 3, 1) := by decide +kernel
theorem dL_law_404 : decode cL_law 404 = .ok (.iconst 4, 1) := by decide +kernel
theorem dL_law_405 : decode cL_law 405 = .ok (.iadd, 1) := by decide +kernel
theorem dL_law_406 : decode cL_law 406 = .ok (.iaload, 1) := by decide +kernel
theorem dL_law_407 : decode cL_law 407 = .ok (.invokevirtual 41, 3) := by decide +kernel
theorem dL_law_410 : decode cL_law 410 = .ok (.aload_n 2, 1) := by decide +kernel
theorem dL_law_411 : decode cL_law 411 = .ok (.aload_n 0, 1) := by decide +kernel
theorem dL_law_412 : decode cL_law 412 = .ok (.iload_n 3, 1) := by decide +kernel
theorem dL_law_413 : decode cL_law 413 = .ok (.iconst 1, 1) := by decide +kernel
theorem dL_law_414 : decode cL_law 414 = .ok (.iadd, 1) := by decide +kernel
theorem dL_law_415 : decode cL_law 415 = .ok (.iaload, 1) := by decide +kernel
theorem dL_law_416 : decode cL_law 416 = .ok (.aload_n 0, 1) := by decide +kernel
theorem dL_law_417 : decode cL_law 417 = .ok (.iload_n 3, 1) := by decide +kernel
theorem dL_law_418 : decode cL_law 418 = .ok (.iconst 2, 1) := by decide +kernel
theorem dL_law_419 : decode cL_law 419 = .ok (.iadd, 1) := by decide +kernel
theorem dL_law_420 : decode cL_law 420 = .ok (.iaload, 1) := by decide +kernel
theorem dL_law_421 : decode cL_law 421 = .ok (.aload_n 0, 1) := by decide +kernel
theorem dL_law_422 : decode cL_law 422 = .ok (.iload_n 3, 1) := by decide +kernel
theorem dL_law_423 : decode cL_law 423 = .ok (.iconst 3, 1) := by decide +kernel
theorem dL_law_424 : decode cL_law 424 = .ok (.iadd, 1) := by decide +kernel
theorem dL_law_425 : decode cL_law 425 = .ok (.iaload, 1) := by decide +kernel
theorem dL_law_426 : decode cL_law 426 = .ok (.aload_n 0, 1) := by decide +kernel
theorem dL_law_427 : decode cL_law 427 = .ok (.iload_n 3, 1) := by decide +kernel
theorem dL_law_428 : decode cL_law 428 = .ok (.iconst 4, 1) := by decide +kernel
theorem dL_law_429 : decode cL_law 429 = .ok (.iadd, 1) := by decide +kernel
theorem dL_law_430 : decode cL_law 430 = .ok (.iaload, 1) := by decide +kernel
theorem dL_law_431 : decode cL_law 431 = .ok (.invokevirtual 45, 3) := by decide +kernel
theorem dL_law_434 : decode cL_law 434 = .ok (.if_icmp .eq 299, 3) := by decide +kernel
theorem dL_law_437 : decode cL_law 437 = .ok (.iconst 0, 1) := by decide +kernel
theorem dL_law_438 : decode cL_law 438 = .ok (.ireturn, 1) := by decide +kernel
theorem dL_law_439 : decode cL_law 439 = .ok (.aload_n 1, 1) := by decide +kernel
theorem dL_law_440 : decode cL_law 440 = .ok (.aload_n 0, 1) := by decide +kernel
theorem dL_law_441 : decode cL_law 441 = .ok (.iload_n 3, 1) := by decide +kernel
theorem dL_law_442 : decode cL_law 442 = .ok (.iconst 1, 1) := by decide +kernel
theorem dL_law_443 : decode cL_law 443 = .ok (.iadd, 1) := by decide +kernel
theorem dL_law_444 : decode cL_law 444 = .ok (.iaload, 1) := by decide +kernel
theorem dL_law_445 : decode cL_law 445 = .ok (.aload_n 0, 1) := by decide +kernel
theorem dL_law_446 : decode cL_law 446 = .ok (.iload_n 3, 1) := by decide +kernel
theorem dL_law_447 : decode cL_law 447 = .ok (.iconst 2, 1) := by decide +kernel
theorem dL_law_448 : decode cL_law 448 = .ok (.iadd, 1) := by decide +kernel
theorem dL_law_449 : decode cL_law 449 = .ok (.iaload, 1) := by decide +kernel
theorem dL_law_450 : decode cL_law 450 = .ok (.aload_n 0, 1) := by decide +kernel
theorem dL_law_451 : decode cL_law 451 = .ok (.iload_n 3, 1) := by decide +kernel
theorem dL_law_452 : decode cL_law 452 = .ok (.iconst 3, 1) := by decide +kernel
theorem dL_law_453 : decode cL_law 453 = .ok (.iadd, 1) := by decide +kernel
theorem dL_law_454 : decode cL_law 454 = .ok (.iaload, 1) := by decide +kernel
theorem dL_law_455 : decode cL_law 455 = .ok (.invokevirtual 46, 3) := by decide +kernel
theorem dL_law_458 : decode cL_law 458 = .ok (.aload_n 2, 1) := by decide +kernel
theorem dL_law_459 : decode cL_law 459 = .ok (.aload_n 0, 1) := by decide +kernel
theorem dL_law_460 : decode cL_law 460 = .ok (.iload_n 3, 1) := by decide +kernel
theorem dL_law_461 : decode cL_law 461 = .ok (.iconst 1, 1) := by decide +kernel
theorem dL_law_462 : decode cL_law 462 = .ok (.iadd, 1) := by decide +kernel
theorem dL_law_463 : decode cL_law 463 = .ok (.iaload, 1) := by decide +kernel
theorem dL_law_464 : decode cL_law 464 = .ok (.aload_n 0, 1) := by decide +kernel
theorem dL_law_465 : decode cL_law 465 = .ok (.iload_n 3, 1) := by decide +kernel
theorem dL_law_466 : decode cL_law 466 = .ok (.iconst 2, 1) := by decide +kernel
theorem dL_law_467 : decode cL_law 467 = .ok (.iadd, 1) := by decide +kernel
theorem dL_law_468 : decode cL_law 468 = .ok (.iaload, 1) := by decide +kernel
theorem dL_law_469 : decode cL_law 469 = .ok (.aload_n 0, 1) := by decide +kernel
theorem dL_law_470 : decode cL_law 470 = .ok (.iload_n 3, 1) := by decide +kernel
theorem dL_law_471 : decode cL_law 471 = .ok (.iconst 3, 1) := by decide +kernel
theorem dL_law_472 : decode cL_law 472 = .ok (.iadd, 1) := by decide +kernel
theorem dL_law_473 : decode cL_law 473 = .ok (.iaload, 1) := by decide +kernel
theorem dL_law_474 : decode cL_law 474 = .ok (.invokevirtual 49, 3) := by decide +kernel
theorem dL_law_477 : decode cL_law 477 = .ok (.if_icmp .eq 256, 3) := by decide +kernel
theorem dL_law_480 : decode cL_law 480 = .ok (.iconst 0, 1) := by decide +kernel
theorem dL_law_481 : decode cL_law 481 = .ok (.ireturn, 1) := by decide +kernel
theorem dL_law_482 : decode cL_law 482 = .ok (.aload_n 1, 1) := by decide +kernel
theorem dL_law_483 : decode cL_law 483 = .ok (.aload_n 0, 1) := by decide +kernel
theorem dL_law_484 : decode cL_law 484 = .ok (.iload_n 3, 1) := by decide +kernel
theorem dL_law_485 : decode cL_law 485 = .ok (.iconst 1, 1) := by decide +kernel
theorem dL_law_486 : decode cL_law 486 = .ok (.iadd, 1) := by decide +kernel
theorem dL_law_487 : decode cL_law 487 = .ok (.iaload, 1) := by decide +kernel
theorem dL_law_488 : decode cL_law 488 = .ok (.invokevirtual 50, 3) := by decide +kernel
theorem dL_law_491 : decode cL_law 491 = .ok (.aload_n 2, 1) := by decide +kernel
theorem dL_law_492 : decode cL_law 492 = .ok (.aload_n 0, 1) := by decide +kernel
theorem dL_law_493 : decode cL_law 493 = .ok (.iload_n 3, 1) := by decide +kernel
theorem dL_law_494 : decode cL_law 494 = .ok (.iconst 1, 1) := by decide +kernel
theorem dL_law_495 : decode cL_law 495 = .ok (.iadd, 1) := by decide +kernel
theorem dL_law_496 : decode cL_law 496 = .ok (.iaload, 1) := by decide +kernel
theorem dL_law_497 : decode cL_law 497 = .ok (.invokevirtual 53, 3) := by decide +kernel
theorem dL_law_500 : decode cL_law 500 = .ok (.if_icmp .eq 233, 3) := by decide +kernel
theorem dL_law_503 : decode cL_law 503 = .ok (.iconst 0, 1) := by decide +kernel
theorem dL_law_504 : decode cL_law 504 = .ok (.ireturn, 1) := by decide +kernel
theorem dL_law_505 : decode cL_law 505 = .ok (.aload_n 1, 1) := by decide +kernel
theorem dL_law_506 : decode cL_law 506 = .ok (.invokevirtual 54, 3) := by decide +kernel
theorem dL_law_509 : decode cL_law 509 = .ok (.aload_n 2, 1) := by decide +kernel
theorem dL_law_510 : decode cL_law 510 = .ok (.invokevirtual 58, 3) := by decide +kernel
theorem dL_law_513 : decode cL_law 513 = .ok (.if_icmp .eq 220, 3) := by decide +kernel
theorem dL_law_516 : decode cL_law 516 = .ok (.iconst 0, 1) := by decide +kernel
theorem dL_law_517 : decode cL_law 517 = .ok (.ireturn, 1) := by decide +kernel
theorem dL_law_518 : decode cL_law 518 = .ok (.aload_n 1, 1) := by decide +kernel
theorem dL_law_519 : decode cL_law 519 = .ok (.aload_n 0, 1) := by decide +kernel
theorem dL_law_520 : decode cL_law 520 = .ok (.iload_n 3, 1) := by decide +kernel
theorem dL_law_521 : decode cL_law 521 = .ok (.iconst 1, 1) := by decide +kernel
theorem dL_law_522 : decode cL_law 522 = .ok (.iadd, 1) := by decide +kernel
theorem dL_law_523 : decode cL_law 523 = .ok (.iaload, 1) := by decide +kernel
theorem dL_law_524 : decode cL_law 524 = .ok (.aload_n 0, 1) := by decide +kernel
theorem dL_law_525 : decode cL_law 525 = .ok (.iload_n 3, 1) := by decide +kernel
theorem dL_law_526 : decode cL_law 526 = .ok (.iconst 2, 1) := by decide +kernel
theorem dL_law_527 : decode cL_law 527 = .ok (.iadd, 1) := by decide +kernel
theorem dL_law_528 : decode cL_law 528 = .ok (.iaload, 1) := by decide +kernel
theorem dL_law_529 : decode cL_law 529 = .ok (.invokevirtual 59, 3) := by decide +kernel
theorem dL_law_532 : decode cL_law 532 = .ok (.aload_n 2, 1) := by decide +kernel
theorem dL_law_533 : decode cL_law 533 = .ok (.aload_n 0, 1) := by decide +kernel
theorem dL_law_534 : decode cL_law 534 = .ok (.iload_n 3, 1) := by decide +kernel
theorem dL_law_535 : decode cL_law 535 = .ok (.iconst 1, 1) := by decide +kernel
theorem dL_law_536 : decode cL_law 536 = .ok (.iadd, 1) := by decide +kernel
theorem dL_law_537 : decode cL_law 537 = .ok (.iaload, 1) := by decide +kernel
theorem dL_law_538 : decode cL_law 538 = .ok (.aload_n 0, 1) := by decide +kernel
theorem dL_law_539 : decode cL_law 539 = .ok (.iload_n 3, 1) := by decide +kernel
theorem dL_law_540 : decode cL_law 540 = .ok (.iconst 2, 1) := by decide +kernel
theorem dL_law_541 : decode cL_law 541 = .ok (.iadd, 1) := by decide +kernel
theorem dL_law_542 : decode cL_law 542 = .ok (.iaload, 1) := by decide +kernel
theorem dL_law_543 : decode cL_law 543 = .ok (.invokevirtual 62, 3) := by decide +kernel
theorem dL_law_546 : decode cL_law 546 = .ok (.if_icmp .eq 187, 3) := by decide +kernel
theorem dL_law_549 : decode cL_law 549 = .ok (.iconst 0, 1) := by decide +kernel
theorem dL_law_550 : decode cL_law 550 = .ok (.ireturn, 1) := by decide +kernel
theorem dL_law_551 : decode cL_law 551 = .ok (.aload_n 1, 1) := by decide +kernel
theorem dL_law_552 : decode cL_law 552 = .ok (.aload_n 0, 1) := by decide +kernel
theorem dL_law_553 : decode cL_law 553 = .ok (.iload_n 3, 1) := by decide +kernel
theorem dL_law_554 : decode cL_law 554 = .ok (.iconst 1, 1) := by decide +kernel
theorem dL_law_555 : decode cL_law 555 = .ok (.iadd, 1) := by decide +kernel
theorem dL_law_556 : decode cL_law 556 = .ok (.iaload, 1) := by decide +kernel
theorem dL_law_557 : decode cL_law 557 = .ok (.aload_n 0, 1) := by decide +kernel
theorem dL_law_558 : decode cL_law 558 = .ok (.iload_n 3, 1) := by decide +kernel
theorem dL_law_559 : decode cL_law 559 = .ok (.iconst 2, 1) := by decide +kernel
theorem dL_law_560 : decode cL_law 560 = .ok (.iadd, 1) := by decide +kernel
theorem dL_law_561 : decode cL_law 561 = .ok (.iaload, 1) := by decide +kernel
theorem dL_law_562 : decode cL_law 562 = .ok (.invokevirtual 63, 3) := by decide +kernel
theorem dL_law_565 : decode cL_law 565 = .ok (.aload_n 2, 1) := by decide +kernel
theorem dL_law_566 : decode cL_law 566 = .ok (.aload_n 0, 1) := by decide +kernel
theorem dL_law_567 : decode cL_law 567 = .ok (.iload_n 3, 1) := by decide +kernel
theorem dL_law_568 : decode cL_law 568 = .ok (.iconst 1, 1) := by decide +kernel
theorem dL_law_569 : decode cL_law 569 = .ok (.iadd, 1) := by decide +kernel
theorem dL_law_570 : decode cL_law 570 = .ok (.iaload, 1) := by decide +kernel
theorem dL_law_571 : decode cL_law 571 = .ok (.aload_n 0, 1) := by decide +kernel
theorem dL_law_572 : decode cL_law 572 = .ok (.iload_n 3, 1) := by decide +kernel
theorem dL_law_573 : decode cL_law 573 = .ok (.iconst 2, 1) := by decide +kernel
theorem dL_law_574 : decode cL_law 574 = .ok (.iadd, 1) := by decide +kernel
theorem dL_law_575 : decode cL_law 575 = .ok (.iaload, 1) := by decide +kernel
theorem dL_law_576 : decode cL_law 576 = .ok (.invokevirtual 66, 3) := by decide +kernel
theorem dL_law_579 : decode cL_law 579 = .ok (.if_icmp .eq 154, 3) := by decide +kernel
theorem dL_law_582 : decode cL_law 582 = .ok (.iconst 0, 1) := by decide +kernel
theorem dL_law_583 : decode cL_law 583 = .ok (.ireturn, 1) := by decide +kernel
theorem dL_law_584 : decode cL_law 584 = .ok (.aload_n 1, 1) := by decide +kernel
theorem dL_law_585 : decode cL_law 585 = .ok (.aload_n 0, 1) := by decide +kernel
theorem dL_law_586 : decode cL_law 586 = .ok (.iload_n 3, 1) := by decide +kernel
theorem dL_law_587 : decode cL_law 587 = .ok (.iconst 1, 1) := by decide +kernel
theorem dL_law_588 : decode cL_law 588 = .ok (.iadd, 1) := by decide +kernel
theorem dL_law_589 : decode cL_law 589 = .ok (.iaload, 1) := by decide +kernel
theorem dL_law_590 : decode cL_law 590 = .ok (.aload_n 0, 1) := by decide +kernel
theorem dL_law_591 : decode cL_law 591 = .ok (.iload_n 3, 1) := by decide +kernel
theorem dL_law_592 : decode cL_law 592 = .ok (.iconst 2, 1) := by decide +kernel
theorem dL_law_593 : decode cL_law 593 = .ok (.iadd, 1) := by decide +kernel
theorem dL_law_594 : decode cL_law 594 = .ok (.iaload, 1) := by decide +kernel
theorem dL_law_595 : decode cL_law 595 = .ok (.invokevirtual 67, 3) := by decide +kernel
theorem dL_law_598 : decode cL_law 598 = .ok (.aload_n 2, 1) := by decide +kernel
theorem dL_law_599 : decode cL_law 599 = .ok (.aload_n 0, 1) := by decide +kernel
theorem dL_law_600 : decode cL_law 600 = .ok (.iload_n 3, 1) := by decide +kernel
theorem dL_law_601 : decode cL_law 601 = .ok (.iconst 1, 1) := by decide +kernel
theorem dL_law_602 : decode cL_law 602 = .ok (.iadd, 1) := by decide +kernel
theorem dL_law_603 : decode cL_law 603 = .ok (.iaload, 1) := by decide +kernel
theorem dL_law_604 : decode cL_law 604 = .ok (.aload_n 0, 1) := by decide +kernel
theorem dL_law_605 : decode cL_law 605 = .ok (.iload_n 3, 1) := by decide +kernel
theorem dL_law_606 : decode cL_law 606 = .ok (.iconst 2, 1) := by decide +kernel
theorem dL_law_607 : decode cL_law 607 = .ok (.iadd, 1) := by decide +kernel
theorem dL_law_608 : decode cL_law 608 = .ok (.iaload, 1) := by decide +kernel
theorem dL_law_609 : decode cL_law 609 = .ok (.invokevirtual 70, 3) := by decide +kernel
theorem dL_law_612 : decode cL_law 612 = .ok (.if_icmp .eq 121, 3) := by decide +kernel
theorem dL_law_615 : decode cL_law 615 = .ok (.iconst 0, 1) := by decide +kernel
theorem dL_law_616 : decode cL_law 616 = .ok (.ireturn, 1) := by decide +kernel
theorem dL_law_617 : decode cL_law 617 = .ok (.aload_n 1, 1) := by decide +kernel
theorem dL_law_618 : decode cL_law 618 = .ok (.aload_n 0, 1) := by decide +kernel
theorem dL_law_619 : decode cL_law 619 = .ok (.iload_n 3, 1) := by decide +kernel
theorem dL_law_620 : decode cL_law 620 = .ok (.iconst 1, 1) := by decide +kernel
theorem dL_law_621 : decode cL_law 621 = .ok (.iadd, 1) := by decide +kernel
theorem dL_law_622 : decode cL_law 622 = .ok (.iaload, 1) := by decide +kernel
theorem dL_law_623 : decode cL_law 623 = .ok (.invokevirtual 71, 3) := by decide +kernel
theorem dL_law_626 : decode cL_law 626 = .ok (.aload_n 2, 1) := by decide +kernel
theorem dL_law_627 : decode cL_law 627 = .ok (.aload_n 0, 1) := by decide +kernel
theorem dL_law_628 : decode cL_law 628 = .ok (.iload_n 3, 1) := by decide +kernel
theorem dL_law_629 : decode cL_law 629 = .ok (.iconst 1, 1) := by decide +kernel
theorem dL_law_630 : decode cL_law 630 = .ok (.iadd, 1) := by decide +kernel
theorem dL_law_631 : decode cL_law 631 = .ok (.iaload, 1) := by decide +kernel
theorem dL_law_632 : decode cL_law 632 = .ok (.invokevirtual 74, 3) := by decide +kernel
theorem dL_law_635 : decode cL_law 635 = .ok (.if_icmp .eq 98, 3) := by decide +kernel
theorem dL_law_638 : decode cL_law 638 = .ok (.iconst 0, 1) := by decide +kernel
theorem dL_law_639 : decode cL_law 639 = .ok (.ireturn, 1) := by decide +kernel
theorem dL_law_640 : decode cL_law 640 = .ok (.aload_n 1, 1) := by decide +kernel
theorem dL_law_641 : decode cL_law 641 = .ok (.aload_n 0, 1) := by decide +kernel
theorem dL_law_642 : decode cL_law 642 = .ok (.iload_n 3, 1) := by decide +kernel
theorem dL_law_643 : decode cL_law 643 = .ok (.iconst 1, 1) := by decide +kernel
theorem dL_law_644 : decode cL_law 644 = .ok (.iadd, 1) := by decide +kernel
theorem dL_law_645 : decode cL_law 645 = .ok (.iaload, 1) := by decide +kernel
theorem dL_law_646 : decode cL_law 646 = .ok (.aload_n 0, 1) := by decide +kernel
theorem dL_law_647 : decode cL_law 647 = .ok (.iload_n 3, 1) := by decide +kernel
theorem dL_law_648 : decode cL_law 648 = .ok (.iconst 2, 1) := by decide +kernel
theorem dL_law_649 : decode cL_law 649 = .ok (.iadd, 1) := by decide +kernel
theorem dL_law_650 : decode cL_law 650 = .ok (.iaload, 1) := by decide +kernel
theorem dL_law_651 : decode cL_law 651 = .ok (.invokevirtual 75, 3) := by decide +kernel
theorem dL_law_654 : decode cL_law 654 = .ok (.aload_n 2, 1) := by decide +kernel
theorem dL_law_655 : decode cL_law 655 = .ok (.aload_n 0, 1) := by decide +kernel
theorem dL_law_656 : decode cL_law 656 = .ok (.iload_n 3, 1) := by decide +kernel
theorem dL_law_657 : decode cL_law 657 = .ok (.iconst 1, 1) := by decide +kernel
theorem dL_law_658 : decode cL_law 658 = .ok (.iadd, 1) := by decide +kernel
theorem dL_law_659 : decode cL_law 659 = .ok (.iaload, 1) := by decide +kernel
theorem dL_law_660 : decode cL_law 660 = .ok (.aload_n 0, 1) := by decide +kernel
theorem dL_law_661 : decode cL_law 661 = .ok (.iload_n 3, 1) := by decide +kernel
theorem dL_law_662 : decode cL_law 662 = .ok (.iconst 2, 1) := by decide +kernel
theorem dL_law_663 : decode cL_law 663 = .ok (.iadd, 1) := by decide +kernel
theorem dL_law_664 : decode cL_law 664 = .ok (.iaload, 1) := by decide +kernel
theorem dL_law_665 : decode cL_law 665 = .ok (.invokevirtual 78, 3) := by decide +kernel
theorem dL_law_668 : decode cL_law 668 = .ok (.if_icmp .eq 65, 3) := by decide +kernel
theorem dL_law_671 : decode cL_law 671 = .ok (.iconst 0, 1) := by decide +kernel
theorem dL_law_672 : decode cL_law 672 = .ok (.ireturn, 1) := by decide +kernel
theorem dL_law_673 : decode cL_law 673 = .ok (.aload_n 1, 1) := by decide +kernel
theorem dL_law_674 : decode cL_law 674 = .ok (.aload_n 0, 1) := by decide +kernel
theorem dL_law_675 : decode cL_law 675 = .ok (.iload_n 3, 1) := by decide +kernel
theorem dL_law_676 : decode cL_law 676 = .ok (.iconst 1, 1) := by decide +kernel
theorem dL_law_677 : decode cL_law 677 = .ok (.iadd, 1) := by decide +kernel
theorem dL_law_678 : decode cL_law 678 = .ok (.iaload, 1) := by decide +kernel
theorem dL_law_679 : decode cL_law 679 = .ok (.invokevirtual 79, 3) := by decide +kernel
theorem dL_law_682 : decode cL_law 682 = .ok (.aload_n 2, 1) := by decide +kernel
theorem dL_law_683 : decode cL_law 683 = .ok (.aload_n 0, 1) := by decide +kernel
theorem dL_law_684 : decode cL_law 684 = .ok (.iload_n 3, 1) := by decide +kernel
theorem dL_law_685 : decode cL_law 685 = .ok (.iconst 1, 1) := by decide +kernel
theorem dL_law_686 : decode cL_law 686 = .ok (.iadd, 1) := by decide +kernel
theorem dL_law_687 : decode cL_law 687 = .ok (.iaload, 1) := by decide +kernel
theorem dL_law_688 : decode cL_law 688 = .ok (.invokevirtual 82, 3) := by decide +kernel
theorem dL_law_691 : decode cL_law 691 = .ok (.if_icmp .eq 42, 3) := by decide +kernel
theorem dL_law_694 : decode cL_law 694 = .ok (.iconst 0, 1) := by decide +kernel
theorem dL_law_695 : decode cL_law 695 = .ok (.ireturn, 1) := by decide +kernel
theorem dL_law_696 : decode cL_law 696 = .ok (.aload_n 1, 1) := by decide +kernel
theorem dL_law_697 : decode cL_law 697 = .ok (.aload_n 0, 1) := by decide +kernel
theorem dL_law_698 : decode cL_law 698 = .ok (.iload_n 3, 1) := by decide +kernel
theorem dL_law_699 : decode cL_law 699 = .ok (.iconst 1, 1) := by decide +kernel
theorem dL_law_700 : decode cL_law 700 = .ok (.iadd, 1) := by decide +kernel
theorem dL_law_701 : decode cL_law 701 = .ok (.iaload, 1) := by decide +kernel
theorem dL_law_702 : decode cL_law 702 = .ok (.invokevirtual 83, 3) := by decide +kernel
theorem dL_law_705 : decode cL_law 705 = .ok (.aload_n 2, 1) := by decide +kernel
theorem dL_law_706 : decode cL_law 706 = .ok (.aload_n 0, 1) := by decide +kernel
theorem dL_law_707 : decode cL_law 707 = .ok (.iload_n 3, 1) := by decide +kernel
theorem dL_law_708 : decode cL_law 708 = .ok (.iconst 1, 1) := by decide +kernel
theorem dL_law_709 : decode cL_law 709 = .ok (.iadd, 1) := by decide +kernel
theorem dL_law_710 : decode cL_law 710 = .ok (.iaload, 1) := by decide +kernel
theorem dL_law_711 : decode cL_law 711 = .ok (.invokevirtual 86, 3) := by decide +kernel
theorem dL_law_714 : decode cL_law 714 = .ok (.if_icmp .eq 19, 3) := by decide +kernel
theorem dL_law_717 : decode cL_law 717 = .ok (.iconst 0, 1) := by decide +kernel
theorem dL_law_718 : decode cL_law 718 = .ok (.ireturn, 1) := by decide +kernel
theorem dL_law_719 : decode cL_law 719 = .ok (.aload_n 1, 1) := by decide +kernel
theorem dL_law_720 : decode cL_law 720 = .ok (.invokevirtual 87, 3) := by decide +kernel
theorem dL_law_723 : decode cL_law 723 = .ok (.aload_n 2, 1) := by decide +kernel
theorem dL_law_724 : decode cL_law 724 = .ok (.invokevirtual 91, 3) := by decide +kernel
theorem dL_law_727 : decode cL_law 727 = .ok (.lcmp, 1) := by decide +kernel
theorem dL_law_728 : decode cL_law 728 = .ok (.ifCond .eq 5, 3) := by decide +kernel
theorem dL_law_731 : decode cL_law 731 = .ok (.iconst 0, 1) := by decide +kernel
theorem dL_law_732 : decode cL_law 732 = .ok (.ireturn, 1) := by decide +kernel
theorem dL_law_733 : decode cL_law 733 = .ok (.iinc 3 6, 3) := by decide +kernel
theorem dL_law_736 : decode cL_law 736 = .ok (.goto (-718), 3) := by decide +kernel
theorem dL_law_739 : decode cL_law 739 = .ok (.iconst 1, 1) := by decide +kernel
theorem dL_law_740 : decode cL_law 740 = .ok (.ireturn, 1) := by decide +kernel
