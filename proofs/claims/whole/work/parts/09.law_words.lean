set_option maxRecDepth 20000 in
theorem ggL_law_X6_wipe : GoodIn wsL_law wsX6_wipe := goodIn_r _ [439, 83, 440, 397, 398, 5, 399, 758, 759, 760, 761, 762, 763, 764, 765, 766, 767, 768, 769, 770, 771, 772, 773] (by decide +kernel) (by decide +kernel)
set_option maxRecDepth 20000 in
theorem gL_law_X6_wipe : GoodIn wsL_law (wsV RL 70 RX6 yX6_wipe wsX6_wipe) := goodIn_app (goodIn_of _ (by decide +kernel)) ggL_law_X6_wipe
set_option maxRecDepth 20000 in
theorem ggL_law_X5_add : GoodIn wsL_law wsX5_add := goodIn_r _ [444, 29, 33, 25, 285, 286, 287, 288, 2, 289, 15, 94, 95, 96, 14, 97, 98, 38, 99, 100, 101, 102, 290, 291, 292, 293, 294, 295, 296, 297, 298, 299, 300, 301, 132, 133, 134, 135, 136, 137, 138, 139, 207, 208, 209, 210, 211, 302, 303, 304, 28, 305, 62, 60, 59, 61, 216, 217, 306, 307, 308, 309, 310, 311, 312, 313, 314, 315, 316, 317, 318, 319, 320, 24, 321, 53, 54, 322, 323, 324, 325, 326, 327, 328, 329, 330, 331, 332, 333, 334, 45, 46, 47, 335, 336, 337, 338, 339, 340, 341, 342, 343, 344, 345, 346, 347, 348, 349, 350, 351, 352, 353, 354, 355, 356, 445, 446, 447, 32, 448, 67, 449, 433, 434, 435, 70, 450, 451, 452, 453, 454, 455, 456, 457, 458, 459, 460, 461, 462, 463, 464, 465, 466, 467, 468, 469, 470, 471, 389, 390, 391, 392, 751, 752, 753, 754, 755, 756, 757, 779, 780, 781, 782, 774, 777, 778, 783, 784, 785] (by decide +kernel) (by decide +kernel)
set_option maxRecDepth 20000 in
theorem gL_law_X5_add : GoodIn wsL_law (wsV RL 71 RX5 yX5_add wsX5_add) := goodIn_app (goodIn_of _ (by decide +kernel)) ggL_law_X5_add
set_option maxRecDepth 20000 in
theorem ggL_law_X6_add : GoodIn wsL_law wsX6_add := goodIn_r _ [475, 76, 84, 83, 80, 118, 119, 5, 120, 115, 116, 117, 362, 363, 364, 171, 172, 173, 365, 366, 367, 368, 82, 147, 148, 149, 275, 276, 277, 369, 370, 371, 372, 373, 374, 375, 81, 376, 377, 378, 379, 380, 381, 476, 477, 478, 479, 480, 481, 440, 397, 398, 399, 758, 759, 760, 761, 762, 763, 764, 765, 766, 767, 768, 769, 770, 771, 772, 773] (by decide +kernel) (by decide +kernel)
set_option maxRecDepth 20000 in
theorem gL_law_X6_add : GoodIn wsL_law (wsV RL 74 RX6 yX6_add wsX6_add) := goodIn_app (goodIn_of _ (by decide +kernel)) ggL_law_X6_add
set_option maxRecDepth 20000 in
theorem ggL_law_X5_multiply : GoodIn wsL_law wsX5_multiply := goodIn_r _ [485, 29, 25, 285, 33, 286, 287, 288, 2, 289, 15, 94, 95, 96, 14, 97, 98, 38, 99, 100, 101, 102, 290, 291, 292, 293, 294, 295, 296, 297, 298, 299, 300, 301, 132, 133, 134, 135, 136, 137, 138, 139, 207, 208, 209, 210, 211, 302, 303, 304, 28, 305, 62, 60, 59, 61, 216, 217, 306, 307, 308, 309, 310, 311, 312, 313, 314, 315, 316, 317, 318, 319, 320, 24, 321, 53, 54, 322, 323, 324, 325, 326, 327, 328, 329, 330, 331, 332, 333, 334, 45, 46, 47, 335, 336, 337, 338, 339, 340, 341, 342, 343, 344, 345, 346, 347, 348, 349, 350, 351, 352, 353, 354, 355, 356, 486, 487, 488, 489, 490, 491, 492, 389, 390, 391, 392, 493, 494, 495, 496, 445, 446, 447, 32, 448, 67, 449, 433, 434, 435, 70, 497, 498, 499, 500, 462, 463, 464, 465, 466, 467, 468, 469, 470, 471, 450, 451, 452, 453, 454, 455, 456, 457, 751, 752, 753, 754, 755, 756, 757, 779, 780, 781, 782, 774, 777, 778, 783, 784, 785] (by decide +kernel) (by decide +kernel)
set_option maxRecDepth 20000 in
theorem gL_law_X5_multiply : GoodIn wsL_law (wsV RL 75 RX5 yX5_multiply wsX5_multiply) := goodIn_app (goodIn_of _ (by decide +kernel)) ggL_law_X5_multiply
set_option maxRecDepth 20000 in
theorem ggL_law_X6_multiply : GoodIn wsL_law wsX6_multiply := goodIn_r _ [504, 76, 115, 116, 5, 117, 118, 119, 120, 362, 363, 364, 171, 172, 173, 365, 366, 367, 368, 82, 80, 147, 148, 149, 275, 276, 277, 369, 370, 371, 372, 373, 374, 375, 81, 376, 377, 378, 379, 380, 381, 505, 506, 507, 508, 85, 86, 83, 509, 510, 511, 512, 513, 514, 515, 84, 476, 477, 478, 479, 480, 481, 440, 397, 398, 399, 758, 759, 760, 761, 762, 763, 764, 765, 766, 767, 768, 769, 770, 771, 772, 773] (by decide +kernel) (by decide +kernel)
set_option maxRecDepth 20000 in
theorem gL_law_X6_multiply : GoodIn wsL_law (wsV RL 78 RX6 yX6_multiply wsX6_multiply) := goodIn_app (goodIn_of _ (by decide +kernel)) ggL_law_X6_multiply
set_option maxRecDepth 20000 in
theorem ggL_law_X5_difference : GoodIn wsL_law wsX5_difference := goodIn_r _ [519, 33, 25, 445, 446, 447, 32, 448, 67, 449, 433, 434, 435, 70, 450, 451, 452, 24, 453, 53, 454, 455, 456, 457, 486, 487, 488, 489, 54, 334, 45, 46, 47, 490, 491, 328, 492, 216, 2, 217, 520, 521, 522, 523, 524, 331, 332, 333, 335, 336, 337, 338, 339, 340, 341, 342, 343, 344, 345, 346, 347, 348, 349, 350, 351, 352, 353, 354, 355, 356, 462, 463, 464, 465, 466, 467, 468, 469, 470, 471, 389, 390, 391, 392, 751, 752, 753, 754, 755, 756, 757, 783, 784, 785, 777, 778] (by decide +kernel) (by decide +kernel)
set_option maxRecDepth 20000 in
theorem gL_law_X5_difference : GoodIn wsL_law (wsV RL 79 RX5 yX5_difference wsX5_difference) := goodIn_app (goodIn_of _ (by decide +kernel)) ggL_law_X5_difference
set_option maxRecDepth 20000 in
theorem ggL_law_X6_difference : GoodIn wsL_law wsX6_difference := goodIn_r _ [528, 84, 83, 118, 119, 5, 120, 372, 373, 374, 375, 81, 376, 377, 378, 379, 380, 381, 476, 477, 478, 479, 480, 481, 440, 397, 398, 399, 758, 759, 760, 761, 762, 763, 764, 765, 766, 767, 768, 769, 770, 771, 772, 773] (by decide +kernel) (by decide +kernel)
set_option maxRecDepth 20000 in
theorem gL_law_X6_difference : GoodIn wsL_law (wsV RL 82 RX6 yX6_difference wsX6_difference) := goodIn_app (goodIn_of _ (by decide +kernel)) ggL_law_X6_difference
set_option maxRecDepth 20000 in
theorem ggL_law_X5_sheet : GoodIn wsL_law wsX5_sheet := goodIn_r _ [532, 404, 25, 209, 210, 2, 211, 206, 207, 208, 357, 350, 351, 24, 352, 53, 751, 752, 753, 754, 755, 756, 757, 777, 778] (by decide +kernel) (by decide +kernel)
set_option maxRecDepth 20000 in
theorem gL_law_X5_sheet : GoodIn wsL_law (wsV RL 83 RX5 yX5_sheet wsX5_sheet) := goodIn_app (goodIn_of _ (by decide +kernel)) ggL_law_X5_sheet
set_option maxRecDepth 20000 in
theorem ggL_law_X6_sheet : GoodIn wsL_law wsX6_sheet := goodIn_r _ [536, 420, 83, 382, 383, 5, 384, 118, 119, 120, 369, 370, 371, 758, 759, 760, 761, 762, 763, 764, 765, 766, 767, 768, 769, 770, 771, 772, 773] (by decide +kernel) (by decide +kernel)
set_option maxRecDepth 20000 in
theorem gL_law_X6_sheet : GoodIn wsL_law (wsV RL 87 RX6 yX6_sheet wsX6_sheet) := goodIn_app (goodIn_of _ (by decide +kernel)) ggL_law_X6_sheet
set_option maxRecDepth 20000 in
theorem ggL_law_X5_part : GoodIn wsL_law wsX5_part := goodIn_r _ [540, 33, 25, 29, 15, 541, 542, 543, 544, 32, 545, 70, 67, 69, 546, 547, 451, 452, 24, 453, 53, 454, 455, 456, 457, 548, 549, 550, 20, 551, 43, 552, 350, 351, 352, 553, 303, 304, 28, 305, 62, 60, 59, 61, 216, 2, 217, 306, 307, 308, 309, 310, 311, 312, 313, 314, 315, 316, 317, 207, 208, 209, 210, 211, 318, 319, 320, 321, 54, 322, 323, 324, 325, 326, 327, 328, 329, 330, 331, 332, 333, 334, 45, 46, 47, 335, 336, 337, 338, 339, 340, 341, 342, 343, 344, 345, 346, 347, 348, 349, 353, 354, 355, 356, 554, 459, 460, 461, 555, 213, 214, 14, 215, 38, 218, 219, 220, 556, 104, 105, 106, 107, 108, 109, 110, 557, 558, 559, 560, 48, 561, 562, 563, 564, 565, 751, 752, 753, 754, 755, 756, 757, 783, 784, 785, 779, 780, 781, 782, 777, 778, 775, 776, 774] (by decide +kernel) (by decide +kernel)
set_option maxRecDepth 20000 in
theorem gL_law_X5_part : GoodIn wsL_law (wsV RL 88 RX5 yX5_part wsX5_part) := goodIn_app (goodIn_of _ (by decide +kernel)) ggL_law_X5_part
set_option maxRecDepth 20000 in
theorem ggL_law_X6_part : GoodIn wsL_law wsX6_part := goodIn_r _ [569, 570, 87, 571, 572, 573, 5, 574, 440, 575, 576, 577, 578, 84, 83, 77, 80, 379, 380, 381, 225, 226, 227, 228, 121, 122, 123, 579, 580, 581, 582, 88, 365, 366, 367, 368, 82, 147, 148, 149, 275, 276, 277, 369, 370, 371, 372, 373, 374, 375, 81, 376, 377, 378, 758, 759, 760, 761, 762, 763, 764, 765, 766, 767, 768, 769, 770, 771, 772, 773] (by decide +kernel) (by decide +kernel)
set_option maxRecDepth 20000 in
theorem gL_law_X6_part : GoodIn wsL_law (wsV RL 91 RX6 yX6_part wsX6_part) := goodIn_app (goodIn_of _ (by decide +kernel)) ggL_law_X6_part
set_option maxRecDepth 20000 in
theorem ggL_law_X5_times : GoodIn wsL_law wsX5_times := goodIn_r _ [586, 404, 33, 25, 29, 15, 587, 286, 287, 288, 2, 289, 94, 95, 96, 14, 97, 98, 38, 99, 100, 101, 102, 290, 291, 292, 293, 294, 295, 296, 297, 298, 299, 300, 301, 132, 133, 134, 135, 136, 137, 138, 139, 207, 208, 209, 210, 211, 542, 543, 544, 32, 545, 70, 67, 69, 546, 547, 451, 452, 24, 453, 53, 454, 455, 456, 457, 548, 549, 550, 20, 551, 43, 552, 350, 351, 352, 553, 303, 304, 28, 305, 62, 60, 59, 61, 216, 217, 306, 307, 308, 309, 310, 311, 312, 313, 314, 315, 316, 317, 318, 319, 320, 321, 54, 322, 323, 324, 325, 326, 327, 328, 329, 330, 331, 332, 333, 334, 45, 46, 47, 335, 336, 337, 338, 339, 340, 341, 342, 343, 344, 345, 346, 347, 348, 349, 353, 354, 355, 356, 554, 459, 460, 461, 555, 213, 214, 215, 218, 219, 220, 556, 104, 105, 106, 107, 108, 109, 110, 557, 558, 559, 560, 48, 561, 357, 751, 752, 753, 754, 755, 756, 757, 783, 784, 785, 774, 779, 780, 781, 782, 777, 778, 775, 776] (by decide +kernel) (by decide +kernel)
set_option maxRecDepth 20000 in
theorem gL_law_X5_times : GoodIn wsL_law (wsV RL 92 RX5 yX5_times wsX5_times) := goodIn_app (goodIn_of _ (by decide +kernel)) ggL_law_X5_times
set_option maxRecDepth 20000 in
theorem ggL_law_X6_times : GoodIn wsL_law wsX6_times := goodIn_r _ [591, 76, 420, 570, 87, 88, 115, 116, 5, 117, 118, 119, 120, 362, 363, 364, 171, 172, 173, 571, 572, 573, 574, 440, 575, 576, 577, 578, 84, 83, 77, 80, 379, 380, 381, 225, 226, 227, 228, 121, 122, 123, 579, 580, 581, 582, 365, 366, 367, 368, 82, 147, 148, 149, 275, 276, 277, 369, 370, 371, 372, 373, 374, 375, 81, 376, 377, 378, 758, 759, 760, 761, 762, 763, 764, 765, 766, 767, 768, 769, 770, 771, 772, 773] (by decide +kernel) (by decide +kernel)
set_option maxRecDepth 20000 in
theorem gL_law_X6_times : GoodIn wsL_law (wsV RL 96 RX6 yX6_times wsX6_times) := goodIn_app (goodIn_of _ (by decide +kernel)) ggL_law_X6_times
set_option maxRecDepth 20000 in
theorem ggL_law_X5_makes : GoodIn wsL_law wsX5_makes := goodIn_r _ [595, 15, 596, 597, 2, 598, 599, 600, 601, 14, 602, 99, 100, 101, 102, 38, 603, 257, 258, 259, 136, 137, 138, 139, 182, 183, 184, 185, 128, 129, 130, 131, 132, 133, 134, 135, 604, 605, 606, 607, 608, 609, 610, 103, 104, 105, 106, 107, 108, 109, 110, 751, 752, 753, 754, 755, 756, 757, 774] (by decide +kernel) (by decide +kernel)
set_option maxRecDepth 20000 in
theorem gL_law_X5_makes : GoodIn wsL_law (wsV RL 97 RX5 yX5_makes wsX5_makes) := goodIn_app (goodIn_of _ (by decide +kernel)) ggL_law_X5_makes
set_option maxRecDepth 20000 in
theorem ggL_law_X6_makes : GoodIn wsL_law wsX6_makes := goodIn_r _ [614, 77, 118, 119, 5, 120, 615, 616, 617, 618, 619, 620, 621, 622, 623, 624, 625, 626, 627, 275, 276, 277, 144, 145, 146, 147, 148, 149, 121, 122, 123, 758, 759, 760, 761, 762, 763, 764, 765, 766, 767, 768, 769, 770, 771, 772, 773] (by decide +kernel) (by decide +kernel)
set_option maxRecDepth 20000 in
theorem gL_law_X6_makes : GoodIn wsL_law (wsV RL 100 RX6 yX6_makes wsX6_makes) := goodIn_app (goodIn_of _ (by decide +kernel)) ggL_law_X6_makes
set_option maxRecDepth 20000 in
theorem ggL_law_X5_dream : GoodIn wsL_law wsX5_dream := goodIn_r _ [631, 15, 94, 95, 96, 14, 97, 98, 38, 99, 100, 101, 102, 248, 249, 250, 251, 107, 108, 109, 110, 128, 129, 130, 131, 132, 133, 134, 135, 136, 137, 138, 139, 604, 605, 606, 607, 608, 609, 610, 632, 633, 634, 2, 635, 16, 599, 600, 601, 602, 603, 257, 258, 259, 182, 183, 184, 185, 636, 637, 638, 639, 751, 752, 753, 754, 755, 756, 757, 774] (by decide +kernel) (by decide +kernel)
set_option maxRecDepth 20000 in
theorem gL_law_X5_dream : GoodIn wsL_law (wsV RL 101 RX5 yX5_dream wsX5_dream) := goodIn_app (goodIn_of _ (by decide +kernel)) ggL_law_X5_dream
set_option maxRecDepth 20000 in
theorem ggL_law_X6_dream : GoodIn wsL_law wsX6_dream := goodIn_r _ [643, 76, 77, 115, 116, 5, 117, 118, 119, 120, 264, 265, 266, 121, 122, 123, 615, 616, 617, 618, 619, 620, 621, 622, 623, 624, 625, 626, 627, 275, 276, 277, 144, 145, 146, 147, 148, 149, 758, 759, 760, 761, 762, 763, 764, 765, 766, 767, 768, 769, 770, 771, 772, 773] (by decide +kernel) (by decide +kernel)
set_option maxRecDepth 20000 in
theorem gL_law_X6_dream : GoodIn wsL_law (wsV RL 104 RX6 yX6_dream wsX6_dream) := goodIn_app (goodIn_of _ (by decide +kernel)) ggL_law_X6_dream
set_option maxRecDepth 20000 in
theorem ggL_law_X5_ladder : GoodIn wsL_law wsX5_ladder := goodIn_r _ [647, 21, 596, 597, 2, 598, 648, 549, 550, 20, 551, 43, 649, 650, 651, 652, 653, 654, 655, 656, 657, 658, 659, 660, 558, 559, 560, 48, 561, 455, 456, 457, 562, 563, 564, 565, 751, 752, 753, 754, 755, 756, 757, 775, 776] (by decide +kernel) (by decide +kernel)
set_option maxRecDepth 20000 in
theorem gL_law_X5_ladder : GoodIn wsL_law (wsV RL 105 RX5 yX5_ladder wsX5_ladder) := goodIn_app (goodIn_of _ (by decide +kernel)) ggL_law_X5_ladder
set_option maxRecDepth 20000 in
theorem ggL_law_X6_ladder : GoodIn wsL_law wsX6_ladder := goodIn_r _ [664, 665, 118, 119, 5, 120, 619, 620, 621, 622, 623, 624, 625, 626, 627, 666, 667, 668, 669, 670, 671, 672, 673, 674, 675, 676, 89, 677, 678, 679, 680, 758, 759, 760, 761, 762, 763, 764, 765, 766, 767, 768, 769, 770, 771, 772, 773] (by decide +kernel) (by decide +kernel)
set_option maxRecDepth 20000 in
theorem gL_law_X6_ladder : GoodIn wsL_law (wsV RL 108 RX6 yX6_ladder wsX6_ladder) := goodIn_app (goodIn_of _ (by decide +kernel)) ggL_law_X6_ladder
set_option maxRecDepth 20000 in
theorem ggL_law_X5_rise : GoodIn wsL_law wsX5_rise := goodIn_r _ [684, 685, 15, 21, 94, 95, 96, 14, 97, 98, 38, 99, 100, 101, 102, 128, 129, 130, 131, 132, 133, 134, 135, 136, 137, 138, 139, 648, 549, 550, 20, 551, 43, 686, 687, 688, 2, 689, 256, 257, 258, 259, 182, 183, 184, 185, 103, 104, 105, 106, 107, 108, 109, 110, 660, 558, 559, 560, 48, 561, 455, 456, 457, 562, 563, 564, 565, 751, 752, 753, 754, 755, 756, 757, 774, 775, 776] (by decide +kernel) (by decide +kernel)
set_option maxRecDepth 20000 in
theorem gL_law_X5_rise : GoodIn wsL_law (wsV RL 109 RX5 yX5_rise wsX5_rise) := goodIn_app (goodIn_of _ (by decide +kernel)) ggL_law_X5_rise
set_option maxRecDepth 20000 in
theorem ggL_law_X6_rise : GoodIn wsL_law wsX6_rise := goodIn_r _ [693, 76, 694, 665, 115, 116, 5, 117, 118, 119, 120, 144, 145, 146, 147, 148, 149, 275, 276, 277, 121, 122, 123, 673, 674, 675, 676, 89, 677, 678, 679, 680, 758, 759, 760, 761, 762, 763, 764, 765, 766, 767, 768, 769, 770, 771, 772, 773] (by decide +kernel) (by decide +kernel)
set_option maxRecDepth 20000 in
theorem gL_law_X6_rise : GoodIn wsL_law (wsV RL 113 RX6 yX6_rise wsX6_rise) := goodIn_app (goodIn_of _ (by decide +kernel)) ggL_law_X6_rise
set_option maxRecDepth 20000 in
theorem ggL_law_X5_step : GoodIn wsL_law wsX5_step := goodIn_r _ [698, 15, 21, 94, 95, 96, 14, 97, 98, 38, 99, 100, 101, 102, 699, 295, 296, 297, 700, 701, 702, 703, 136, 137, 138, 139, 128, 129, 130, 131, 132, 133, 134, 135, 256, 257, 258, 259, 182, 183, 184, 185, 103, 104, 105, 106, 107, 108, 109, 110, 648, 549, 550, 20, 551, 43, 686, 687, 688, 2, 689, 660, 558, 559, 560, 48, 561, 455, 456, 457, 562, 563, 564, 565, 751, 752, 753, 754, 755, 756, 757, 774, 775, 776] (by decide +kernel) (by decide +kernel)
set_option maxRecDepth 20000 in
theorem gL_law_X5_step : GoodIn wsL_law (wsV RL 114 RX5 yX5_step wsX5_step) := goodIn_app (goodIn_of _ (by decide +kernel)) ggL_law_X5_step
set_option maxRecDepth 20000 in
theorem ggL_law_X6_step : GoodIn wsL_law wsX6_step := goodIn_r _ [707, 76, 665, 115, 116, 5, 117, 118, 119, 120, 171, 172, 173, 144, 145, 146, 147, 148, 149, 708, 709, 710, 275, 276, 277, 121, 122, 123, 673, 674, 675, 676, 89, 677, 678, 679, 680, 758, 759, 760, 761, 762, 763, 764, 765, 766, 767, 768, 769, 770, 771, 772, 773] (by decide +kernel) (by decide +kernel)
set_option maxRecDepth 20000 in
theorem gL_law_X6_step : GoodIn wsL_law (wsV RL 117 RX6 yX6_step wsX6_step) := goodIn_app (goodIn_of _ (by decide +kernel)) ggL_law_X6_step
set_option maxRecDepth 20000 in
theorem ggL_law_X5_shape : GoodIn wsL_law wsX5_shape := goodIn_r _ [714, 15, 94, 95, 96, 14, 97, 98, 38, 99, 100, 101, 102, 163, 164, 165, 166, 604, 605, 606, 607, 608, 609, 610, 699, 295, 296, 297, 255, 137, 138, 139, 751, 752, 753, 754, 755, 756, 757, 774] (by decide +kernel) (by decide +kernel)
set_option maxRecDepth 20000 in
theorem gL_law_X5_shape : GoodIn wsL_law (wsV RL 118 RX5 yX5_shape wsX5_shape) := goodIn_app (goodIn_of _ (by decide +kernel)) ggL_law_X5_shape
set_option maxRecDepth 20000 in
theorem ggL_law_X6_shape : GoodIn wsL_law wsX6_shape := goodIn_r _ [718, 76, 115, 116, 5, 117, 118, 119, 120, 171, 172, 173, 708, 709, 710, 758, 759, 760, 761, 762, 763, 764, 765, 766, 767, 768, 769, 770, 771, 772, 773] (by decide +kernel) (by decide +kernel)
set_option maxRecDepth 20000 in
theorem gL_law_X6_shape : GoodIn wsL_law (wsV RL 121 RX6 yX6_shape wsX6_shape) := goodIn_app (goodIn_of _ (by decide +kernel)) ggL_law_X6_shape
set_option maxRecDepth 20000 in
theorem ggL_law_X5_avoids : GoodIn wsL_law wsX5_avoids := goodIn_r _ [722, 15, 94, 95, 96, 14, 97, 98, 38, 99, 100, 101, 102, 723, 724, 725, 726, 727, 728, 729, 730, 731, 344, 46, 345, 136, 137, 138, 139, 732, 733, 734, 735, 736, 737, 738, 739, 740, 45, 47, 751, 752, 753, 754, 755, 756, 757, 774] (by decide +kernel) (by decide +kernel)
set_option maxRecDepth 20000 in
theorem gL_law_X5_avoids : GoodIn wsL_law (wsV RL 122 RX5 yX5_avoids wsX5_avoids) := goodIn_app (goodIn_of _ (by decide +kernel)) ggL_law_X5_avoids
set_option maxRecDepth 20000 in
theorem ggL_law_X6_avoids : GoodIn wsL_law wsX6_avoids := goodIn_r _ [744, 76, 115, 116, 5, 117, 118, 119, 120, 745, 746, 747, 748, 749, 750, 758, 759, 760, 761, 762, 763, 764, 765, 766, 767, 768, 769, 770, 771, 772, 773] (by decide +kernel) (by decide +kernel)
set_option maxRecDepth 20000 in
theorem gL_law_X6_avoids : GoodIn wsL_law (wsV RL 125 RX6 yX6_avoids wsX6_avoids) := goodIn_app (goodIn_of _ (by decide +kernel)) ggL_law_X6_avoids
