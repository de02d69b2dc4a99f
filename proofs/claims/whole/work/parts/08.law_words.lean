set_option maxRecDepth 20000 in
theorem ggL_law_X5_init : GoodIn wsL_law wsX5_init := goodIn_r _ [8, 9, 10, 11, 12, 13, 14, 15, 16, 17, 18, 19, 20, 21, 22, 23, 24, 25, 26, 27, 28, 29, 30, 31, 32, 33, 34, 35, 36, 37, 38, 39, 40, 41, 42, 43, 44, 45, 46, 47, 48, 49, 50, 51, 52, 53, 54, 55, 56, 57, 58, 59, 60, 61, 62, 63, 64, 65, 66, 67, 68, 69, 70, 71, 72, 771, 747, 748, 749, 750, 751, 752, 753, 754, 772, 773, 774, 775, 776, 777, 778, 779, 780, 781, 782] (by decide +kernel) (by decide +kernel)
set_option maxRecDepth 20000 in
theorem gL_law_X5_init : GoodIn wsL_law (wsX5_init) := ggL_law_X5_init
set_option maxRecDepth 20000 in
theorem ggL_law_X6_init : GoodIn wsL_law wsX6_init := goodIn_r _ [75, 76, 10, 11, 38, 77, 78, 79, 80, 53, 81, 82, 83, 84, 85, 86, 87, 88, 89, 90, 755, 756, 757, 758, 759, 760, 761, 762, 763, 764, 765, 766, 767, 768, 769, 770] (by decide +kernel) (by decide +kernel)
set_option maxRecDepth 20000 in
theorem gL_law_X6_init : GoodIn wsL_law (wsX6_init) := ggL_law_X6_init
set_option maxRecDepth 20000 in
theorem ggL_law_X5_plain : GoodIn wsL_law wsX5_plain := goodIn_r _ [94, 15, 95, 96, 97, 14, 98, 99, 39, 100, 101, 102, 103, 104, 105, 106, 107, 108, 109, 110, 111, 747, 748, 749, 750, 751, 752, 753, 754, 771] (by decide +kernel) (by decide +kernel)
set_option maxRecDepth 20000 in
theorem gL_law_X5_plain : GoodIn wsL_law (wsV RL 13 RX5 yX5_plain wsX5_plain) := goodIn_app (goodIn_of _ (by decide +kernel)) ggL_law_X5_plain
set_option maxRecDepth 20000 in
theorem ggL_law_X6_plain : GoodIn wsL_law wsX6_plain := goodIn_r _ [115, 77, 116, 117, 5, 118, 119, 120, 121, 122, 123, 124, 755, 756, 757, 758, 759, 760, 761, 762, 763, 764, 765, 766, 767, 768, 769, 770] (by decide +kernel) (by decide +kernel)
set_option maxRecDepth 20000 in
theorem gL_law_X6_plain : GoodIn wsL_law (wsV RL 17 RX6 yX6_plain wsX6_plain) := goodIn_app (goodIn_of _ (by decide +kernel)) ggL_law_X6_plain
set_option maxRecDepth 20000 in
theorem ggL_law_X5_length : GoodIn wsL_law wsX5_length := goodIn_r _ [128, 15, 95, 96, 97, 14, 98, 99, 39, 100, 101, 102, 103, 129, 130, 131, 132, 133, 134, 135, 136, 137, 138, 139, 140, 747, 748, 749, 750, 751, 752, 753, 754, 771] (by decide +kernel) (by decide +kernel)
set_option maxRecDepth 20000 in
theorem gL_law_X5_length : GoodIn wsL_law (wsV RL 18 RX5 yX5_length wsX5_length) := goodIn_app (goodIn_of _ (by decide +kernel)) ggL_law_X5_length
set_option maxRecDepth 20000 in
theorem ggL_law_X6_length : GoodIn wsL_law wsX6_length := goodIn_r _ [144, 77, 116, 117, 5, 118, 119, 120, 121, 145, 146, 147, 148, 149, 150, 755, 756, 757, 758, 759, 760, 761, 762, 763, 764, 765, 766, 767, 768, 769, 770] (by decide +kernel) (by decide +kernel)
set_option maxRecDepth 20000 in
theorem gL_law_X6_length : GoodIn wsL_law (wsV RL 21 RX6 yX6_length wsX6_length) := goodIn_app (goodIn_of _ (by decide +kernel)) ggL_law_X6_length
set_option maxRecDepth 20000 in
theorem ggL_law_X5_code : GoodIn wsL_law wsX5_code := goodIn_r _ [154, 15, 95, 96, 97, 14, 98, 99, 39, 100, 101, 102, 103, 155, 134, 135, 136, 137, 138, 139, 140, 747, 748, 749, 750, 751, 752, 753, 754, 771] (by decide +kernel) (by decide +kernel)
set_option maxRecDepth 20000 in
theorem gL_law_X5_code : GoodIn wsL_law (wsV RL 22 RX5 yX5_code wsX5_code) := goodIn_app (goodIn_of _ (by decide +kernel)) ggL_law_X5_code
set_option maxRecDepth 20000 in
theorem ggL_law_X6_code : GoodIn wsL_law wsX6_code := goodIn_r _ [159, 77, 116, 117, 5, 118, 119, 120, 121, 148, 149, 150, 755, 756, 757, 758, 759, 760, 761, 762, 763, 764, 765, 766, 767, 768, 769, 770] (by decide +kernel) (by decide +kernel)
set_option maxRecDepth 20000 in
theorem gL_law_X6_code : GoodIn wsL_law (wsV RL 26 RX6 yX6_code wsX6_code) := goodIn_app (goodIn_of _ (by decide +kernel)) ggL_law_X6_code
set_option maxRecDepth 20000 in
theorem ggL_law_X5_descents : GoodIn wsL_law wsX5_descents := goodIn_r _ [163, 15, 95, 96, 97, 14, 98, 99, 39, 100, 101, 102, 103, 164, 165, 166, 167, 747, 748, 749, 750, 751, 752, 753, 754, 771] (by decide +kernel) (by decide +kernel)
set_option maxRecDepth 20000 in
theorem gL_law_X5_descents : GoodIn wsL_law (wsV RL 27 RX5 yX5_descents wsX5_descents) := goodIn_app (goodIn_of _ (by decide +kernel)) ggL_law_X5_descents
set_option maxRecDepth 20000 in
theorem ggL_law_X6_descents : GoodIn wsL_law wsX6_descents := goodIn_r _ [171, 77, 116, 117, 5, 118, 119, 120, 121, 172, 173, 174, 755, 756, 757, 758, 759, 760, 761, 762, 763, 764, 765, 766, 767, 768, 769, 770] (by decide +kernel) (by decide +kernel)
set_option maxRecDepth 20000 in
theorem gL_law_X6_descents : GoodIn wsL_law (wsV RL 30 RX6 yX6_descents wsX6_descents) := goodIn_app (goodIn_of _ (by decide +kernel)) ggL_law_X6_descents
set_option maxRecDepth 20000 in
theorem ggL_law_X5_inverse : GoodIn wsL_law wsX5_inverse := goodIn_r _ [178, 15, 16, 95, 96, 97, 14, 98, 99, 39, 100, 101, 102, 103, 179, 180, 181, 182, 137, 138, 139, 140, 183, 184, 185, 186, 104, 105, 106, 107, 108, 109, 110, 111, 747, 748, 749, 750, 751, 752, 753, 754, 771] (by decide +kernel) (by decide +kernel)
set_option maxRecDepth 20000 in
theorem gL_law_X5_inverse : GoodIn wsL_law (wsV RL 31 RX5 yX5_inverse wsX5_inverse) := goodIn_app (goodIn_of _ (by decide +kernel)) ggL_law_X5_inverse
set_option maxRecDepth 20000 in
theorem ggL_law_X6_inverse : GoodIn wsL_law wsX6_inverse := goodIn_r _ [190, 77, 78, 116, 117, 5, 118, 119, 120, 121, 122, 123, 124, 755, 756, 757, 758, 759, 760, 761, 762, 763, 764, 765, 766, 767, 768, 769, 770] (by decide +kernel) (by decide +kernel)
set_option maxRecDepth 20000 in
theorem gL_law_X6_inverse : GoodIn wsL_law (wsV RL 34 RX6 yX6_inverse wsX6_inverse) := goodIn_app (goodIn_of _ (by decide +kernel)) ggL_law_X6_inverse
set_option maxRecDepth 20000 in
theorem ggL_law_X5_after : GoodIn wsL_law wsX5_after := goodIn_r _ [194, 15, 16, 17, 95, 96, 97, 14, 98, 99, 39, 100, 101, 102, 103, 195, 196, 197, 198, 137, 138, 139, 140, 104, 105, 106, 107, 108, 109, 110, 111, 747, 748, 749, 750, 751, 752, 753, 754, 771] (by decide +kernel) (by decide +kernel)
set_option maxRecDepth 20000 in
theorem gL_law_X5_after : GoodIn wsL_law (wsV RL 35 RX5 yX5_after wsX5_after) := goodIn_app (goodIn_of _ (by decide +kernel)) ggL_law_X5_after
set_option maxRecDepth 20000 in
theorem ggL_law_X6_after : GoodIn wsL_law wsX6_after := goodIn_r _ [202, 77, 78, 79, 116, 117, 5, 118, 119, 120, 121, 122, 123, 124, 755, 756, 757, 758, 759, 760, 761, 762, 763, 764, 765, 766, 767, 768, 769, 770] (by decide +kernel) (by decide +kernel)
set_option maxRecDepth 20000 in
theorem gL_law_X6_after : GoodIn wsL_law (wsV RL 38 RX6 yX6_after wsX6_after) := goodIn_app (goodIn_of _ (by decide +kernel)) ggL_law_X6_after
set_option maxRecDepth 20000 in
theorem ggL_law_X5_ofCode : GoodIn wsL_law wsX5_ofCode := goodIn_r _ [206, 15, 207, 208, 2, 209, 210, 211, 212, 213, 214, 215, 14, 216, 39, 217, 218, 219, 220, 221, 104, 105, 106, 107, 108, 109, 110, 111, 747, 748, 749, 750, 751, 752, 753, 754, 771] (by decide +kernel) (by decide +kernel)
set_option maxRecDepth 20000 in
theorem gL_law_X5_ofCode : GoodIn wsL_law (wsV RL 39 RX5 yX5_ofCode wsX5_ofCode) := goodIn_app (goodIn_of _ (by decide +kernel)) ggL_law_X5_ofCode
set_option maxRecDepth 20000 in
theorem ggL_law_X6_ofCode : GoodIn wsL_law wsX6_ofCode := goodIn_r _ [225, 77, 119, 120, 5, 121, 226, 227, 228, 229, 122, 123, 124, 755, 756, 757, 758, 759, 760, 761, 762, 763, 764, 765, 766, 767, 768, 769, 770] (by decide +kernel) (by decide +kernel)
set_option maxRecDepth 20000 in
theorem gL_law_X6_ofCode : GoodIn wsL_law (wsV RL 43 RX6 yX6_ofCode wsX6_ofCode) := goodIn_app (goodIn_of _ (by decide +kernel)) ggL_law_X6_ofCode
set_option maxRecDepth 20000 in
theorem ggL_law_X5_below : GoodIn wsL_law wsX5_below := goodIn_r _ [233, 15, 16, 95, 96, 97, 14, 98, 99, 39, 100, 101, 102, 103, 234, 235, 236, 237, 747, 748, 749, 750, 751, 752, 753, 754, 771] (by decide +kernel) (by decide +kernel)
set_option maxRecDepth 20000 in
theorem gL_law_X5_below : GoodIn wsL_law (wsV RL 44 RX5 yX5_below wsX5_below) := goodIn_app (goodIn_of _ (by decide +kernel)) ggL_law_X5_below
set_option maxRecDepth 20000 in
theorem ggL_law_X6_below : GoodIn wsL_law wsX6_below := goodIn_r _ [241, 77, 78, 116, 117, 5, 118, 119, 120, 121, 242, 243, 244, 755, 756, 757, 758, 759, 760, 761, 762, 763, 764, 765, 766, 767, 768, 769, 770] (by decide +kernel) (by decide +kernel)
set_option maxRecDepth 20000 in
theorem gL_law_X6_below : GoodIn wsL_law (wsV RL 47 RX6 yX6_below wsX6_below) := goodIn_app (goodIn_of _ (by decide +kernel)) ggL_law_X6_below
set_option maxRecDepth 20000 in
theorem ggL_law_X5_words : GoodIn wsL_law wsX5_words := goodIn_r _ [248, 15, 95, 96, 97, 14, 98, 99, 39, 100, 101, 102, 103, 249, 250, 251, 252, 108, 109, 110, 111, 253, 254, 2, 255, 256, 138, 139, 140, 257, 258, 259, 260, 137, 183, 184, 185, 186, 747, 748, 749, 750, 751, 752, 753, 754, 771] (by decide +kernel) (by decide +kernel)
set_option maxRecDepth 20000 in
theorem gL_law_X5_words : GoodIn wsL_law (wsV RL 48 RX5 yX5_words wsX5_words) := goodIn_app (goodIn_of _ (by decide +kernel)) ggL_law_X5_words
set_option maxRecDepth 20000 in
theorem ggL_law_X6_words : GoodIn wsL_law wsX6_words := goodIn_r _ [264, 77, 80, 116, 117, 5, 118, 119, 120, 121, 265, 266, 267, 145, 146, 147, 148, 149, 150, 268, 269, 270, 271, 78, 272, 273, 274, 275, 226, 227, 228, 229, 276, 277, 278, 279, 280, 281, 755, 756, 757, 758, 759, 760, 761, 762, 763, 764, 765, 766, 767, 768, 769, 770] (by decide +kernel) (by decide +kernel)
set_option maxRecDepth 20000 in
theorem gL_law_X6_words : GoodIn wsL_law (wsV RL 51 RX6 yX6_words wsX6_words) := goodIn_app (goodIn_of _ (by decide +kernel)) ggL_law_X6_words
set_option maxRecDepth 20000 in
theorem ggL_law_X5_number : GoodIn wsL_law wsX5_number := goodIn_r _ [285, 30, 286, 287, 288, 289, 2, 290, 15, 95, 96, 97, 14, 98, 99, 39, 100, 101, 102, 103, 291, 292, 293, 294, 295, 296, 297, 298, 299, 300, 301, 302, 133, 134, 135, 136, 137, 138, 139, 140, 208, 209, 210, 211, 212, 303, 304, 305, 29, 306, 63, 61, 60, 62, 217, 218, 307, 308, 309, 310, 311, 312, 313, 314, 315, 316, 317, 318, 319, 320, 321, 24, 322, 54, 55, 323, 324, 325, 326, 327, 328, 329, 330, 331, 332, 333, 334, 335, 46, 47, 48, 336, 337, 338, 339, 340, 341, 342, 343, 344, 345, 346, 347, 348, 349, 350, 351, 352, 353, 354, 355, 356, 357, 207, 358, 747, 748, 749, 750, 751, 752, 753, 754, 776, 777, 778, 779, 771, 774, 775] (by decide +kernel) (by decide +kernel)
set_option maxRecDepth 20000 in
theorem gL_law_X5_number : GoodIn wsL_law (wsV RL 52 RX5 yX5_number wsX5_number) := goodIn_app (goodIn_of _ (by decide +kernel)) ggL_law_X5_number
set_option maxRecDepth 20000 in
theorem ggL_law_X6_number : GoodIn wsL_law wsX6_number := goodIn_r _ [362, 77, 81, 116, 117, 5, 118, 119, 120, 121, 363, 364, 365, 172, 173, 174, 366, 367, 368, 369, 83, 148, 149, 150, 276, 277, 278, 370, 371, 372, 373, 374, 375, 376, 82, 377, 378, 379, 380, 381, 382, 383, 384, 385, 755, 756, 757, 758, 759, 760, 761, 762, 763, 764, 765, 766, 767, 768, 769, 770] (by decide +kernel) (by decide +kernel)
set_option maxRecDepth 20000 in
theorem gL_law_X6_number : GoodIn wsL_law (wsV RL 56 RX6 yX6_number wsX6_number) := goodIn_app (goodIn_of _ (by decide +kernel)) ggL_law_X6_number
set_option maxRecDepth 20000 in
theorem ggL_law_X5_terms : GoodIn wsL_law wsX5_terms := goodIn_r _ [389, 30, 286, 287, 288, 289, 2, 290, 15, 95, 96, 97, 14, 98, 99, 39, 100, 101, 102, 103, 291, 292, 293, 294, 295, 296, 297, 298, 299, 300, 301, 302, 133, 134, 135, 136, 137, 138, 139, 140, 208, 209, 210, 211, 212, 303, 304, 305, 29, 306, 63, 61, 60, 62, 217, 218, 307, 308, 309, 310, 311, 312, 313, 314, 315, 316, 317, 318, 319, 320, 321, 24, 322, 54, 55, 323, 324, 325, 326, 327, 328, 329, 330, 331, 332, 333, 334, 335, 46, 47, 48, 336, 337, 338, 339, 340, 341, 342, 343, 344, 345, 346, 347, 348, 349, 350, 351, 352, 353, 354, 355, 356, 357, 390, 391, 392, 393, 747, 748, 749, 750, 751, 752, 753, 754, 776, 777, 778, 779, 771, 774, 775] (by decide +kernel) (by decide +kernel)
set_option maxRecDepth 20000 in
theorem gL_law_X5_terms : GoodIn wsL_law (wsV RL 57 RX5 yX5_terms wsX5_terms) := goodIn_app (goodIn_of _ (by decide +kernel)) ggL_law_X5_terms
set_option maxRecDepth 20000 in
theorem ggL_law_X6_terms : GoodIn wsL_law wsX6_terms := goodIn_r _ [397, 77, 81, 116, 117, 5, 118, 119, 120, 121, 363, 364, 365, 172, 173, 174, 366, 367, 368, 369, 83, 148, 149, 150, 276, 277, 278, 370, 371, 372, 373, 374, 375, 376, 82, 377, 378, 379, 380, 381, 382, 398, 399, 400, 755, 756, 757, 758, 759, 760, 761, 762, 763, 764, 765, 766, 767, 768, 769, 770] (by decide +kernel) (by decide +kernel)
set_option maxRecDepth 20000 in
theorem gL_law_X6_terms : GoodIn wsL_law (wsV RL 60 RX6 yX6_terms wsX6_terms) := goodIn_app (goodIn_of _ (by decide +kernel)) ggL_law_X6_terms
set_option maxRecDepth 20000 in
theorem ggL_law_X5_value : GoodIn wsL_law wsX5_value := goodIn_r _ [404, 405, 30, 286, 287, 288, 289, 2, 290, 15, 95, 96, 97, 14, 98, 99, 39, 100, 101, 102, 103, 291, 292, 293, 294, 295, 296, 297, 298, 299, 300, 301, 302, 133, 134, 135, 136, 137, 138, 139, 140, 208, 209, 210, 211, 212, 406, 407, 408, 303, 304, 305, 29, 306, 63, 61, 60, 62, 217, 218, 307, 308, 309, 310, 311, 312, 313, 314, 315, 316, 317, 318, 319, 320, 321, 24, 322, 54, 55, 323, 324, 325, 326, 327, 328, 329, 330, 331, 332, 333, 334, 335, 46, 47, 48, 336, 337, 338, 339, 340, 341, 342, 343, 344, 345, 346, 347, 348, 349, 350, 351, 352, 353, 354, 355, 356, 357, 409, 410, 411, 412, 413, 414, 415, 416, 747, 748, 749, 750, 751, 752, 753, 754, 776, 777, 778, 779, 771, 774, 775] (by decide +kernel) (by decide +kernel)
set_option maxRecDepth 20000 in
theorem gL_law_X5_value : GoodIn wsL_law (wsV RL 61 RX5 yX5_value wsX5_value) := goodIn_app (goodIn_of _ (by decide +kernel)) ggL_law_X5_value
set_option maxRecDepth 20000 in
theorem ggL_law_X6_value : GoodIn wsL_law wsX6_value := goodIn_r _ [420, 77, 421, 81, 116, 117, 5, 118, 119, 120, 121, 422, 423, 424, 363, 364, 365, 172, 173, 174, 366, 367, 368, 369, 83, 148, 149, 150, 276, 277, 278, 370, 371, 372, 373, 374, 375, 376, 82, 377, 378, 379, 380, 381, 382, 425, 426, 427, 755, 756, 757, 758, 759, 760, 761, 762, 763, 764, 765, 766, 767, 768, 769, 770] (by decide +kernel) (by decide +kernel)
set_option maxRecDepth 20000 in
theorem gL_law_X6_value : GoodIn wsL_law (wsV RL 65 RX6 yX6_value wsX6_value) := goodIn_app (goodIn_of _ (by decide +kernel)) ggL_law_X6_value
set_option maxRecDepth 20000 in
theorem ggL_law_X5_wipe : GoodIn wsL_law wsX5_wipe := goodIn_r _ [431, 25, 34, 390, 391, 392, 24, 393, 54, 432, 324, 325, 326, 327, 328, 329, 330, 433, 434, 435, 33, 436, 71, 747, 748, 749, 750, 751, 752, 753, 754, 774, 775, 780, 781, 782] (by decide +kernel) (by decide +kernel)
set_option maxRecDepth 20000 in
theorem gL_law_X5_wipe : GoodIn wsL_law (wsV RL 66 RX5 yX5_wipe wsX5_wipe) := goodIn_app (goodIn_of _ (by decide +kernel)) ggL_law_X5_wipe
