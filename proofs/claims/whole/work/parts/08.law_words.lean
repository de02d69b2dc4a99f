set_option maxRecDepth 20000 in
theorem ggL_law_X5_init : GoodIn wsL_law wsX5_init := goodIn_r _ [8, 9, 10, 11, 12, 13, 14, 15, 16, 17, 18, 19, 20, 21, 22, 23, 24, 25, 26, 27, 28, 29, 30, 31, 32, 33, 34, 35, 36, 37, 38, 39, 40, 41, 42, 43, 44, 45, 46, 47, 48, 49, 50, 51, 52, 53, 54, 55, 56, 57, 58, 59, 60, 61, 62, 63, 64, 65, 66, 67, 68, 69, 70, 71, 774, 751, 752, 753, 754, 755, 756, 757, 775, 776, 777, 778, 779, 780, 781, 782, 783, 784, 785] (by decide +kernel) (by decide +kernel)
set_option maxRecDepth 20000 in
theorem gL_law_X5_init : GoodIn wsL_law (wsX5_init) := ggL_law_X5_init
set_option maxRecDepth 20000 in
theorem ggL_law_X6_init : GoodIn wsL_law wsX6_init := goodIn_r _ [74, 75, 10, 11, 37, 76, 77, 78, 79, 52, 80, 81, 82, 83, 84, 85, 86, 87, 88, 89, 758, 759, 760, 761, 762, 763, 764, 765, 766, 767, 768, 769, 770, 771, 772, 773] (by decide +kernel) (by decide +kernel)
set_option maxRecDepth 20000 in
theorem gL_law_X6_init : GoodIn wsL_law (wsX6_init) := ggL_law_X6_init
set_option maxRecDepth 20000 in
theorem ggL_law_X5_plain : GoodIn wsL_law wsX5_plain := goodIn_r _ [93, 15, 94, 95, 96, 14, 97, 98, 38, 99, 100, 101, 102, 103, 104, 105, 106, 107, 108, 109, 110, 751, 752, 753, 754, 755, 756, 757, 774] (by decide +kernel) (by decide +kernel)
set_option maxRecDepth 20000 in
theorem gL_law_X5_plain : GoodIn wsL_law (wsV RL 13 RX5 yX5_plain wsX5_plain) := goodIn_app (goodIn_of _ (by decide +kernel)) ggL_law_X5_plain
set_option maxRecDepth 20000 in
theorem ggL_law_X6_plain : GoodIn wsL_law wsX6_plain := goodIn_r _ [114, 76, 115, 116, 5, 117, 118, 119, 120, 121, 122, 123, 758, 759, 760, 761, 762, 763, 764, 765, 766, 767, 768, 769, 770, 771, 772, 773] (by decide +kernel) (by decide +kernel)
set_option maxRecDepth 20000 in
theorem gL_law_X6_plain : GoodIn wsL_law (wsV RL 17 RX6 yX6_plain wsX6_plain) := goodIn_app (goodIn_of _ (by decide +kernel)) ggL_law_X6_plain
set_option maxRecDepth 20000 in
theorem ggL_law_X5_length : GoodIn wsL_law wsX5_length := goodIn_r _ [127, 15, 94, 95, 96, 14, 97, 98, 38, 99, 100, 101, 102, 128, 129, 130, 131, 132, 133, 134, 135, 136, 137, 138, 139, 751, 752, 753, 754, 755, 756, 757, 774] (by decide +kernel) (by decide +kernel)
set_option maxRecDepth 20000 in
theorem gL_law_X5_length : GoodIn wsL_law (wsV RL 18 RX5 yX5_length wsX5_length) := goodIn_app (goodIn_of _ (by decide +kernel)) ggL_law_X5_length
set_option maxRecDepth 20000 in
theorem ggL_law_X6_length : GoodIn wsL_law wsX6_length := goodIn_r _ [143, 76, 115, 116, 5, 117, 118, 119, 120, 144, 145, 146, 147, 148, 149, 758, 759, 760, 761, 762, 763, 764, 765, 766, 767, 768, 769, 770, 771, 772, 773] (by decide +kernel) (by decide +kernel)
set_option maxRecDepth 20000 in
theorem gL_law_X6_length : GoodIn wsL_law (wsV RL 21 RX6 yX6_length wsX6_length) := goodIn_app (goodIn_of _ (by decide +kernel)) ggL_law_X6_length
set_option maxRecDepth 20000 in
theorem ggL_law_X5_code : GoodIn wsL_law wsX5_code := goodIn_r _ [153, 15, 94, 95, 96, 14, 97, 98, 38, 99, 100, 101, 102, 154, 133, 134, 135, 136, 137, 138, 139, 751, 752, 753, 754, 755, 756, 757, 774] (by decide +kernel) (by decide +kernel)
set_option maxRecDepth 20000 in
theorem gL_law_X5_code : GoodIn wsL_law (wsV RL 22 RX5 yX5_code wsX5_code) := goodIn_app (goodIn_of _ (by decide +kernel)) ggL_law_X5_code
set_option maxRecDepth 20000 in
theorem ggL_law_X6_code : GoodIn wsL_law wsX6_code := goodIn_r _ [158, 76, 115, 116, 5, 117, 118, 119, 120, 147, 148, 149, 758, 759, 760, 761, 762, 763, 764, 765, 766, 767, 768, 769, 770, 771, 772, 773] (by decide +kernel) (by decide +kernel)
set_option maxRecDepth 20000 in
theorem gL_law_X6_code : GoodIn wsL_law (wsV RL 26 RX6 yX6_code wsX6_code) := goodIn_app (goodIn_of _ (by decide +kernel)) ggL_law_X6_code
set_option maxRecDepth 20000 in
theorem ggL_law_X5_descents : GoodIn wsL_law wsX5_descents := goodIn_r _ [162, 15, 94, 95, 96, 14, 97, 98, 38, 99, 100, 101, 102, 163, 164, 165, 166, 751, 752, 753, 754, 755, 756, 757, 774] (by decide +kernel) (by decide +kernel)
set_option maxRecDepth 20000 in
theorem gL_law_X5_descents : GoodIn wsL_law (wsV RL 27 RX5 yX5_descents wsX5_descents) := goodIn_app (goodIn_of _ (by decide +kernel)) ggL_law_X5_descents
set_option maxRecDepth 20000 in
theorem ggL_law_X6_descents : GoodIn wsL_law wsX6_descents := goodIn_r _ [170, 76, 115, 116, 5, 117, 118, 119, 120, 171, 172, 173, 758, 759, 760, 761, 762, 763, 764, 765, 766, 767, 768, 769, 770, 771, 772, 773] (by decide +kernel) (by decide +kernel)
set_option maxRecDepth 20000 in
theorem gL_law_X6_descents : GoodIn wsL_law (wsV RL 30 RX6 yX6_descents wsX6_descents) := goodIn_app (goodIn_of _ (by decide +kernel)) ggL_law_X6_descents
set_option maxRecDepth 20000 in
theorem ggL_law_X5_inverse : GoodIn wsL_law wsX5_inverse := goodIn_r _ [177, 15, 16, 94, 95, 96, 14, 97, 98, 38, 99, 100, 101, 102, 178, 179, 180, 181, 136, 137, 138, 139, 182, 183, 184, 185, 103, 104, 105, 106, 107, 108, 109, 110, 751, 752, 753, 754, 755, 756, 757, 774] (by decide +kernel) (by decide +kernel)
set_option maxRecDepth 20000 in
theorem gL_law_X5_inverse : GoodIn wsL_law (wsV RL 31 RX5 yX5_inverse wsX5_inverse) := goodIn_app (goodIn_of _ (by decide +kernel)) ggL_law_X5_inverse
set_option maxRecDepth 20000 in
theorem ggL_law_X6_inverse : GoodIn wsL_law wsX6_inverse := goodIn_r _ [189, 76, 77, 115, 116, 5, 117, 118, 119, 120, 121, 122, 123, 758, 759, 760, 761, 762, 763, 764, 765, 766, 767, 768, 769, 770, 771, 772, 773] (by decide +kernel) (by decide +kernel)
set_option maxRecDepth 20000 in
theorem gL_law_X6_inverse : GoodIn wsL_law (wsV RL 34 RX6 yX6_inverse wsX6_inverse) := goodIn_app (goodIn_of _ (by decide +kernel)) ggL_law_X6_inverse
set_option maxRecDepth 20000 in
theorem ggL_law_X5_after : GoodIn wsL_law wsX5_after := goodIn_r _ [193, 15, 16, 17, 94, 95, 96, 14, 97, 98, 38, 99, 100, 101, 102, 194, 195, 196, 197, 136, 137, 138, 139, 103, 104, 105, 106, 107, 108, 109, 110, 751, 752, 753, 754, 755, 756, 757, 774] (by decide +kernel) (by decide +kernel)
set_option maxRecDepth 20000 in
theorem gL_law_X5_after : GoodIn wsL_law (wsV RL 35 RX5 yX5_after wsX5_after) := goodIn_app (goodIn_of _ (by decide +kernel)) ggL_law_X5_after
set_option maxRecDepth 20000 in
theorem ggL_law_X6_after : GoodIn wsL_law wsX6_after := goodIn_r _ [201, 76, 77, 78, 115, 116, 5, 117, 118, 119, 120, 121, 122, 123, 758, 759, 760, 761, 762, 763, 764, 765, 766, 767, 768, 769, 770, 771, 772, 773] (by decide +kernel) (by decide +kernel)
set_option maxRecDepth 20000 in
theorem gL_law_X6_after : GoodIn wsL_law (wsV RL 38 RX6 yX6_after wsX6_after) := goodIn_app (goodIn_of _ (by decide +kernel)) ggL_law_X6_after
set_option maxRecDepth 20000 in
theorem ggL_law_X5_ofCode : GoodIn wsL_law wsX5_ofCode := goodIn_r _ [205, 15, 206, 207, 2, 208, 209, 210, 211, 212, 213, 214, 14, 215, 38, 216, 217, 218, 219, 220, 103, 104, 105, 106, 107, 108, 109, 110, 751, 752, 753, 754, 755, 756, 757, 774] (by decide +kernel) (by decide +kernel)
set_option maxRecDepth 20000 in
theorem gL_law_X5_ofCode : GoodIn wsL_law (wsV RL 39 RX5 yX5_ofCode wsX5_ofCode) := goodIn_app (goodIn_of _ (by decide +kernel)) ggL_law_X5_ofCode
set_option maxRecDepth 20000 in
theorem ggL_law_X6_ofCode : GoodIn wsL_law wsX6_ofCode := goodIn_r _ [224, 76, 118, 119, 5, 120, 225, 226, 227, 228, 121, 122, 123, 758, 759, 760, 761, 762, 763, 764, 765, 766, 767, 768, 769, 770, 771, 772, 773] (by decide +kernel) (by decide +kernel)
set_option maxRecDepth 20000 in
theorem gL_law_X6_ofCode : GoodIn wsL_law (wsV RL 43 RX6 yX6_ofCode wsX6_ofCode) := goodIn_app (goodIn_of _ (by decide +kernel)) ggL_law_X6_ofCode
set_option maxRecDepth 20000 in
theorem ggL_law_X5_below : GoodIn wsL_law wsX5_below := goodIn_r _ [232, 15, 16, 94, 95, 96, 14, 97, 98, 38, 99, 100, 101, 102, 233, 234, 235, 236, 751, 752, 753, 754, 755, 756, 757, 774] (by decide +kernel) (by decide +kernel)
set_option maxRecDepth 20000 in
theorem gL_law_X5_below : GoodIn wsL_law (wsV RL 44 RX5 yX5_below wsX5_below) := goodIn_app (goodIn_of _ (by decide +kernel)) ggL_law_X5_below
set_option maxRecDepth 20000 in
theorem ggL_law_X6_below : GoodIn wsL_law wsX6_below := goodIn_r _ [240, 76, 77, 115, 116, 5, 117, 118, 119, 120, 241, 242, 243, 758, 759, 760, 761, 762, 763, 764, 765, 766, 767, 768, 769, 770, 771, 772, 773] (by decide +kernel) (by decide +kernel)
set_option maxRecDepth 20000 in
theorem gL_law_X6_below : GoodIn wsL_law (wsV RL 47 RX6 yX6_below wsX6_below) := goodIn_app (goodIn_of _ (by decide +kernel)) ggL_law_X6_below
set_option maxRecDepth 20000 in
theorem ggL_law_X5_words : GoodIn wsL_law wsX5_words := goodIn_r _ [247, 15, 94, 95, 96, 14, 97, 98, 38, 99, 100, 101, 102, 248, 249, 250, 251, 107, 108, 109, 110, 252, 253, 2, 254, 255, 137, 138, 139, 256, 257, 258, 259, 136, 182, 183, 184, 185, 751, 752, 753, 754, 755, 756, 757, 774] (by decide +kernel) (by decide +kernel)
set_option maxRecDepth 20000 in
theorem gL_law_X5_words : GoodIn wsL_law (wsV RL 48 RX5 yX5_words wsX5_words) := goodIn_app (goodIn_of _ (by decide +kernel)) ggL_law_X5_words
set_option maxRecDepth 20000 in
theorem ggL_law_X6_words : GoodIn wsL_law wsX6_words := goodIn_r _ [263, 76, 79, 115, 116, 5, 117, 118, 119, 120, 264, 265, 266, 144, 145, 146, 147, 148, 149, 267, 268, 269, 270, 77, 271, 272, 273, 274, 225, 226, 227, 228, 275, 276, 277, 278, 279, 280, 758, 759, 760, 761, 762, 763, 764, 765, 766, 767, 768, 769, 770, 771, 772, 773] (by decide +kernel) (by decide +kernel)
set_option maxRecDepth 20000 in
theorem gL_law_X6_words : GoodIn wsL_law (wsV RL 51 RX6 yX6_words wsX6_words) := goodIn_app (goodIn_of _ (by decide +kernel)) ggL_law_X6_words
set_option maxRecDepth 20000 in
theorem ggL_law_X5_number : GoodIn wsL_law wsX5_number := goodIn_r _ [284, 29, 285, 286, 287, 288, 2, 289, 15, 94, 95, 96, 14, 97, 98, 38, 99, 100, 101, 102, 290, 291, 292, 293, 294, 295, 296, 297, 298, 299, 300, 301, 132, 133, 134, 135, 136, 137, 138, 139, 207, 208, 209, 210, 211, 302, 303, 304, 28, 305, 62, 60, 59, 61, 216, 217, 306, 307, 308, 309, 310, 311, 312, 313, 314, 315, 316, 317, 318, 319, 320, 24, 321, 53, 54, 322, 323, 324, 325, 326, 327, 328, 329, 330, 331, 332, 333, 334, 45, 46, 47, 335, 336, 337, 338, 339, 340, 341, 342, 343, 344, 345, 346, 347, 348, 349, 350, 351, 352, 353, 354, 355, 356, 206, 357, 751, 752, 753, 754, 755, 756, 757, 779, 780, 781, 782, 774, 777, 778] (by decide +kernel) (by decide +kernel)
set_option maxRecDepth 20000 in
theorem gL_law_X5_number : GoodIn wsL_law (wsV RL 52 RX5 yX5_number wsX5_number) := goodIn_app (goodIn_of _ (by decide +kernel)) ggL_law_X5_number
set_option maxRecDepth 20000 in
theorem ggL_law_X6_number : GoodIn wsL_law wsX6_number := goodIn_r _ [361, 76, 80, 115, 116, 5, 117, 118, 119, 120, 362, 363, 364, 171, 172, 173, 365, 366, 367, 368, 82, 147, 148, 149, 275, 276, 277, 369, 370, 371, 372, 373, 374, 375, 81, 376, 377, 378, 379, 380, 381, 382, 383, 384, 758, 759, 760, 761, 762, 763, 764, 765, 766, 767, 768, 769, 770, 771, 772, 773] (by decide +kernel) (by decide +kernel)
set_option maxRecDepth 20000 in
theorem gL_law_X6_number : GoodIn wsL_law (wsV RL 56 RX6 yX6_number wsX6_number) := goodIn_app (goodIn_of _ (by decide +kernel)) ggL_law_X6_number
set_option maxRecDepth 20000 in
theorem ggL_law_X5_terms : GoodIn wsL_law wsX5_terms := goodIn_r _ [388, 29, 285, 286, 287, 288, 2, 289, 15, 94, 95, 96, 14, 97, 98, 38, 99, 100, 101, 102, 290, 291, 292, 293, 294, 295, 296, 297, 298, 299, 300, 301, 132, 133, 134, 135, 136, 137, 138, 139, 207, 208, 209, 210, 211, 302, 303, 304, 28, 305, 62, 60, 59, 61, 216, 217, 306, 307, 308, 309, 310, 311, 312, 313, 314, 315, 316, 317, 318, 319, 320, 24, 321, 53, 54, 322, 323, 324, 325, 326, 327, 328, 329, 330, 331, 332, 333, 334, 45, 46, 47, 335, 336, 337, 338, 339, 340, 341, 342, 343, 344, 345, 346, 347, 348, 349, 350, 351, 352, 353, 354, 355, 356, 389, 390, 391, 392, 751, 752, 753, 754, 755, 756, 757, 779, 780, 781, 782, 774, 777, 778] (by decide +kernel) (by decide +kernel)
set_option maxRecDepth 20000 in
theorem gL_law_X5_terms : GoodIn wsL_law (wsV RL 57 RX5 yX5_terms wsX5_terms) := goodIn_app (goodIn_of _ (by decide +kernel)) ggL_law_X5_terms
set_option maxRecDepth 20000 in
theorem ggL_law_X6_terms : GoodIn wsL_law wsX6_terms := goodIn_r _ [396, 76, 80, 115, 116, 5, 117, 118, 119, 120, 362, 363, 364, 171, 172, 173, 365, 366, 367, 368, 82, 147, 148, 149, 275, 276, 277, 369, 370, 371, 372, 373, 374, 375, 81, 376, 377, 378, 379, 380, 381, 397, 398, 399, 758, 759, 760, 761, 762, 763, 764, 765, 766, 767, 768, 769, 770, 771, 772, 773] (by decide +kernel) (by decide +kernel)
set_option maxRecDepth 20000 in
theorem gL_law_X6_terms : GoodIn wsL_law (wsV RL 60 RX6 yX6_terms wsX6_terms) := goodIn_app (goodIn_of _ (by decide +kernel)) ggL_law_X6_terms
set_option maxRecDepth 20000 in
theorem ggL_law_X5_value : GoodIn wsL_law wsX5_value := goodIn_r _ [403, 404, 29, 285, 286, 287, 288, 2, 289, 15, 94, 95, 96, 14, 97, 98, 38, 99, 100, 101, 102, 290, 291, 292, 293, 294, 295, 296, 297, 298, 299, 300, 301, 132, 133, 134, 135, 136, 137, 138, 139, 207, 208, 209, 210, 211, 405, 406, 407, 302, 303, 304, 28, 305, 62, 60, 59, 61, 216, 217, 306, 307, 308, 309, 310, 311, 312, 313, 314, 315, 316, 317, 318, 319, 320, 24, 321, 53, 54, 322, 323, 324, 325, 326, 327, 328, 329, 330, 331, 332, 333, 334, 45, 46, 47, 335, 336, 337, 338, 339, 340, 341, 342, 343, 344, 345, 346, 347, 348, 349, 350, 351, 352, 353, 354, 355, 356, 408, 409, 410, 411, 412, 413, 414, 415, 751, 752, 753, 754, 755, 756, 757, 779, 780, 781, 782, 774, 777, 778] (by decide +kernel) (by decide +kernel)
set_option maxRecDepth 20000 in
theorem gL_law_X5_value : GoodIn wsL_law (wsV RL 61 RX5 yX5_value wsX5_value) := goodIn_app (goodIn_of _ (by decide +kernel)) ggL_law_X5_value
set_option maxRecDepth 20000 in
theorem ggL_law_X6_value : GoodIn wsL_law wsX6_value := goodIn_r _ [419, 76, 420, 80, 115, 116, 5, 117, 118, 119, 120, 421, 422, 423, 362, 363, 364, 171, 172, 173, 365, 366, 367, 368, 82, 147, 148, 149, 275, 276, 277, 369, 370, 371, 372, 373, 374, 375, 81, 376, 377, 378, 379, 380, 381, 424, 425, 426, 758, 759, 760, 761, 762, 763, 764, 765, 766, 767, 768, 769, 770, 771, 772, 773] (by decide +kernel) (by decide +kernel)
set_option maxRecDepth 20000 in
theorem gL_law_X6_value : GoodIn wsL_law (wsV RL 65 RX6 yX6_value wsX6_value) := goodIn_app (goodIn_of _ (by decide +kernel)) ggL_law_X6_value
set_option maxRecDepth 20000 in
theorem ggL_law_X5_wipe : GoodIn wsL_law wsX5_wipe := goodIn_r _ [430, 25, 33, 389, 390, 391, 24, 392, 53, 431, 323, 324, 325, 326, 327, 328, 329, 432, 433, 434, 32, 435, 70, 751, 752, 753, 754, 755, 756, 757, 777, 778, 783, 784, 785] (by decide +kernel) (by decide +kernel)
set_option maxRecDepth 20000 in
theorem gL_law_X5_wipe : GoodIn wsL_law (wsV RL 66 RX5 yX5_wipe wsX5_wipe) := goodIn_app (goodIn_of _ (by decide +kernel)) ggL_law_X5_wipe
