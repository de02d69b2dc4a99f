set_option maxRecDepth 20000 in
theorem ggL_law_X6_wipe : GoodIn wsL_law wsX6_wipe := goodIn_r _ [440, 84, 441, 398, 399, 5, 400, 755, 756, 757, 758, 759, 760, 761, 762, 763, 764, 765, 766, 767, 768, 769, 770] (by decide +kernel) (by decide +kernel)
set_option maxRecDepth 20000 in
theorem gL_law_X6_wipe : GoodIn wsL_law (wsV RL 70 RX6 yX6_wipe wsX6_wipe) := goodIn_app (goodIn_of _ (by decide +kernel)) ggL_law_X6_wipe
set_option maxRecDepth 20000 in
theorem ggL_law_X5_add : GoodIn wsL_law wsX5_add := goodIn_r _ [445, 30, 26, 25, 286, 287, 288, 289, 2, 290, 15, 95, 96, 97, 14, 98, 99, 39, 100, 101, 102, 103, 291, 292, 293, 294, 295, 296, 297, 298, 299, 300, 301, 302, 133, 134, 135, 136, 137, 138, 139, 140, 208, 209, 210, 211, 212, 303, 304, 305, 29, 306, 63, 61, 60, 62, 217, 218, 307, 308, 309, 310, 311, 312, 313, 314, 315, 316, 317, 318, 319, 320, 321, 24, 322, 54, 55, 323, 324, 325, 326, 327, 328, 329, 330, 331, 332, 333, 334, 335, 46, 47, 48, 336, 337, 338, 339, 340, 341, 342, 343, 344, 345, 346, 347, 348, 349, 350, 351, 352, 353, 354, 355, 356, 357, 446, 447, 448, 449, 450, 451, 452, 453, 454, 455, 456, 457, 458, 459, 460, 461, 34, 462, 463, 464, 465, 466, 467, 433, 434, 435, 33, 436, 71, 390, 391, 392, 393, 747, 748, 749, 750, 751, 752, 753, 754, 776, 777, 778, 779, 771, 774, 775, 780, 781, 782] (by decide +kernel) (by decide +kernel)
set_option maxRecDepth 20000 in
theorem gL_law_X5_add : GoodIn wsL_law (wsV RL 71 RX5 yX5_add wsX5_add) := goodIn_app (goodIn_of _ (by decide +kernel)) ggL_law_X5_add
set_option maxRecDepth 20000 in
theorem ggL_law_X6_add : GoodIn wsL_law wsX6_add := goodIn_r _ [471, 77, 85, 84, 81, 119, 120, 5, 121, 116, 117, 118, 363, 364, 365, 172, 173, 174, 366, 367, 368, 369, 83, 148, 149, 150, 276, 277, 278, 370, 371, 372, 373, 374, 375, 376, 82, 377, 378, 379, 380, 381, 382, 472, 473, 474, 475, 476, 477, 441, 398, 399, 400, 755, 756, 757, 758, 759, 760, 761, 762, 763, 764, 765, 766, 767, 768, 769, 770] (by decide +kernel) (by decide +kernel)
set_option maxRecDepth 20000 in
theorem gL_law_X6_add : GoodIn wsL_law (wsV RL 74 RX6 yX6_add wsX6_add) := goodIn_app (goodIn_of _ (by decide +kernel)) ggL_law_X6_add
set_option maxRecDepth 20000 in
theorem ggL_law_X5_multiply : GoodIn wsL_law wsX5_multiply := goodIn_r _ [481, 30, 25, 286, 26, 287, 288, 289, 2, 290, 15, 95, 96, 97, 14, 98, 99, 39, 100, 101, 102, 103, 291, 292, 293, 294, 295, 296, 297, 298, 299, 300, 301, 302, 133, 134, 135, 136, 137, 138, 139, 140, 208, 209, 210, 211, 212, 303, 304, 305, 29, 306, 63, 61, 60, 62, 217, 218, 307, 308, 309, 310, 311, 312, 313, 314, 315, 316, 317, 318, 319, 320, 321, 24, 322, 54, 55, 323, 324, 325, 326, 327, 328, 329, 330, 331, 332, 333, 334, 335, 46, 47, 48, 336, 337, 338, 339, 340, 341, 342, 343, 344, 345, 346, 347, 348, 349, 350, 351, 352, 353, 354, 355, 356, 357, 482, 483, 484, 485, 486, 487, 488, 390, 391, 392, 393, 489, 490, 491, 492, 493, 494, 495, 496, 458, 459, 460, 461, 34, 462, 463, 464, 465, 466, 467, 446, 447, 448, 449, 450, 451, 452, 453, 433, 434, 435, 33, 436, 71, 747, 748, 749, 750, 751, 752, 753, 754, 776, 777, 778, 779, 771, 774, 775, 780, 781, 782] (by decide +kernel) (by decide +kernel)
set_option maxRecDepth 20000 in
theorem gL_law_X5_multiply : GoodIn wsL_law (wsV RL 75 RX5 yX5_multiply wsX5_multiply) := goodIn_app (goodIn_of _ (by decide +kernel)) ggL_law_X5_multiply
set_option maxRecDepth 20000 in
theorem ggL_law_X6_multiply : GoodIn wsL_law wsX6_multiply := goodIn_r _ [500, 77, 116, 117, 5, 118, 119, 120, 121, 363, 364, 365, 172, 173, 174, 366, 367, 368, 369, 83, 81, 148, 149, 150, 276, 277, 278, 370, 371, 372, 373, 374, 375, 376, 82, 377, 378, 379, 380, 381, 382, 501, 502, 503, 504, 86, 87, 84, 505, 506, 507, 508, 509, 510, 511, 85, 472, 473, 474, 475, 476, 477, 441, 398, 399, 400, 755, 756, 757, 758, 759, 760, 761, 762, 763, 764, 765, 766, 767, 768, 769, 770] (by decide +kernel) (by decide +kernel)
set_option maxRecDepth 20000 in
theorem gL_law_X6_multiply : GoodIn wsL_law (wsV RL 78 RX6 yX6_multiply wsX6_multiply) := goodIn_app (goodIn_of _ (by decide +kernel)) ggL_law_X6_multiply
set_option maxRecDepth 20000 in
theorem ggL_law_X5_difference : GoodIn wsL_law wsX5_difference := goodIn_r _ [515, 26, 25, 446, 447, 448, 24, 449, 54, 450, 451, 452, 453, 482, 483, 484, 485, 55, 335, 46, 47, 48, 486, 487, 329, 488, 217, 2, 218, 516, 517, 518, 519, 520, 332, 333, 334, 336, 337, 338, 339, 340, 341, 342, 343, 344, 345, 346, 347, 348, 349, 350, 351, 352, 353, 354, 355, 356, 357, 458, 459, 460, 461, 34, 462, 463, 464, 465, 466, 467, 433, 434, 435, 33, 436, 71, 390, 391, 392, 393, 747, 748, 749, 750, 751, 752, 753, 754, 774, 775, 780, 781, 782] (by decide +kernel) (by decide +kernel)
set_option maxRecDepth 20000 in
theorem gL_law_X5_difference : GoodIn wsL_law (wsV RL 79 RX5 yX5_difference wsX5_difference) := goodIn_app (goodIn_of _ (by decide +kernel)) ggL_law_X5_difference
set_option maxRecDepth 20000 in
theorem ggL_law_X6_difference : GoodIn wsL_law wsX6_difference := goodIn_r _ [524, 85, 84, 119, 120, 5, 121, 373, 374, 375, 376, 82, 377, 378, 379, 380, 381, 382, 472, 473, 474, 475, 476, 477, 441, 398, 399, 400, 755, 756, 757, 758, 759, 760, 761, 762, 763, 764, 765, 766, 767, 768, 769, 770] (by decide +kernel) (by decide +kernel)
set_option maxRecDepth 20000 in
theorem gL_law_X6_difference : GoodIn wsL_law (wsV RL 82 RX6 yX6_difference wsX6_difference) := goodIn_app (goodIn_of _ (by decide +kernel)) ggL_law_X6_difference
set_option maxRecDepth 20000 in
theorem ggL_law_X5_sheet : GoodIn wsL_law wsX5_sheet := goodIn_r _ [528, 405, 25, 210, 211, 2, 212, 207, 208, 209, 358, 351, 352, 24, 353, 54, 747, 748, 749, 750, 751, 752, 753, 754, 774, 775] (by decide +kernel) (by decide +kernel)
set_option maxRecDepth 20000 in
theorem gL_law_X5_sheet : GoodIn wsL_law (wsV RL 83 RX5 yX5_sheet wsX5_sheet) := goodIn_app (goodIn_of _ (by decide +kernel)) ggL_law_X5_sheet
set_option maxRecDepth 20000 in
theorem ggL_law_X6_sheet : GoodIn wsL_law wsX6_sheet := goodIn_r _ [532, 421, 84, 383, 384, 5, 385, 119, 120, 121, 370, 371, 372, 755, 756, 757, 758, 759, 760, 761, 762, 763, 764, 765, 766, 767, 768, 769, 770] (by decide +kernel) (by decide +kernel)
set_option maxRecDepth 20000 in
theorem gL_law_X6_sheet : GoodIn wsL_law (wsV RL 87 RX6 yX6_sheet wsX6_sheet) := goodIn_app (goodIn_of _ (by decide +kernel)) ggL_law_X6_sheet
set_option maxRecDepth 20000 in
theorem ggL_law_X5_part : GoodIn wsL_law wsX5_part := goodIn_r _ [536, 34, 25, 30, 15, 537, 538, 539, 540, 33, 541, 71, 68, 70, 542, 543, 447, 448, 24, 449, 54, 450, 451, 452, 453, 544, 545, 546, 20, 547, 44, 548, 351, 352, 353, 549, 304, 305, 29, 306, 63, 61, 60, 62, 217, 2, 218, 307, 308, 309, 310, 311, 312, 313, 314, 315, 316, 317, 318, 208, 209, 210, 211, 212, 319, 320, 321, 322, 55, 323, 324, 325, 326, 327, 328, 329, 330, 331, 332, 333, 334, 335, 46, 47, 48, 336, 337, 338, 339, 340, 341, 342, 343, 344, 345, 346, 347, 348, 349, 350, 354, 355, 356, 357, 550, 455, 456, 457, 551, 214, 215, 14, 216, 39, 219, 220, 221, 552, 105, 106, 107, 108, 109, 110, 111, 553, 554, 555, 556, 49, 557, 558, 559, 560, 561, 747, 748, 749, 750, 751, 752, 753, 754, 780, 781, 782, 776, 777, 778, 779, 774, 775, 772, 773, 771] (by decide +kernel) (by decide +kernel)
set_option maxRecDepth 20000 in
theorem gL_law_X5_part : GoodIn wsL_law (wsV RL 88 RX5 yX5_part wsX5_part) := goodIn_app (goodIn_of _ (by decide +kernel)) ggL_law_X5_part
set_option maxRecDepth 20000 in
theorem ggL_law_X6_part : GoodIn wsL_law wsX6_part := goodIn_r _ [565, 566, 88, 567, 568, 569, 5, 570, 441, 571, 572, 573, 574, 85, 84, 78, 81, 380, 381, 382, 226, 227, 228, 229, 122, 123, 124, 575, 576, 577, 578, 89, 366, 367, 368, 369, 83, 148, 149, 150, 276, 277, 278, 370, 371, 372, 373, 374, 375, 376, 82, 377, 378, 379, 755, 756, 757, 758, 759, 760, 761, 762, 763, 764, 765, 766, 767, 768, 769, 770] (by decide +kernel) (by decide +kernel)
set_option maxRecDepth 20000 in
theorem gL_law_X6_part : GoodIn wsL_law (wsV RL 91 RX6 yX6_part wsX6_part) := goodIn_app (goodIn_of _ (by decide +kernel)) ggL_law_X6_part
set_option maxRecDepth 20000 in
theorem ggL_law_X5_times : GoodIn wsL_law wsX5_times := goodIn_r _ [582, 405, 34, 25, 30, 15, 583, 287, 288, 289, 2, 290, 95, 96, 97, 14, 98, 99, 39, 100, 101, 102, 103, 291, 292, 293, 294, 295, 296, 297, 298, 299, 300, 301, 302, 133, 134, 135, 136, 137, 138, 139, 140, 208, 209, 210, 211, 212, 538, 539, 540, 33, 541, 71, 68, 70, 542, 543, 447, 448, 24, 449, 54, 450, 451, 452, 453, 544, 545, 546, 20, 547, 44, 548, 351, 352, 353, 549, 304, 305, 29, 306, 63, 61, 60, 62, 217, 218, 307, 308, 309, 310, 311, 312, 313, 314, 315, 316, 317, 318, 319, 320, 321, 322, 55, 323, 324, 325, 326, 327, 328, 329, 330, 331, 332, 333, 334, 335, 46, 47, 48, 336, 337, 338, 339, 340, 341, 342, 343, 344, 345, 346, 347, 348, 349, 350, 354, 355, 356, 357, 550, 455, 456, 457, 551, 214, 215, 216, 219, 220, 221, 552, 105, 106, 107, 108, 109, 110, 111, 553, 554, 555, 556, 49, 557, 358, 747, 748, 749, 750, 751, 752, 753, 754, 780, 781, 782, 771, 776, 777, 778, 779, 774, 775, 772, 773] (by decide +kernel) (by decide +kernel)
set_option maxRecDepth 20000 in
theorem gL_law_X5_times : GoodIn wsL_law (wsV RL 92 RX5 yX5_times wsX5_times) := goodIn_app (goodIn_of _ (by decide +kernel)) ggL_law_X5_times
set_option maxRecDepth 20000 in
theorem ggL_law_X6_times : GoodIn wsL_law wsX6_times := goodIn_r _ [587, 77, 421, 566, 88, 89, 116, 117, 5, 118, 119, 120, 121, 363, 364, 365, 172, 173, 174, 567, 568, 569, 570, 441, 571, 572, 573, 574, 85, 84, 78, 81, 380, 381, 382, 226, 227, 228, 229, 122, 123, 124, 575, 576, 577, 578, 366, 367, 368, 369, 83, 148, 149, 150, 276, 277, 278, 370, 371, 372, 373, 374, 375, 376, 82, 377, 378, 379, 755, 756, 757, 758, 759, 760, 761, 762, 763, 764, 765, 766, 767, 768, 769, 770] (by decide +kernel) (by decide +kernel)
set_option maxRecDepth 20000 in
theorem gL_law_X6_times : GoodIn wsL_law (wsV RL 96 RX6 yX6_times wsX6_times) := goodIn_app (goodIn_of _ (by decide +kernel)) ggL_law_X6_times
set_option maxRecDepth 20000 in
theorem ggL_law_X5_makes : GoodIn wsL_law wsX5_makes := goodIn_r _ [591, 15, 592, 593, 2, 594, 595, 596, 597, 14, 598, 100, 101, 102, 103, 39, 599, 258, 259, 260, 137, 138, 139, 140, 183, 184, 185, 186, 129, 130, 131, 132, 133, 134, 135, 136, 600, 601, 602, 603, 604, 605, 606, 104, 105, 106, 107, 108, 109, 110, 111, 747, 748, 749, 750, 751, 752, 753, 754, 771] (by decide +kernel) (by decide +kernel)
set_option maxRecDepth 20000 in
theorem gL_law_X5_makes : GoodIn wsL_law (wsV RL 97 RX5 yX5_makes wsX5_makes) := goodIn_app (goodIn_of _ (by decide +kernel)) ggL_law_X5_makes
set_option maxRecDepth 20000 in
theorem ggL_law_X6_makes : GoodIn wsL_law wsX6_makes := goodIn_r _ [610, 78, 119, 120, 5, 121, 611, 612, 613, 614, 615, 616, 617, 618, 619, 620, 621, 622, 623, 276, 277, 278, 145, 146, 147, 148, 149, 150, 122, 123, 124, 755, 756, 757, 758, 759, 760, 761, 762, 763, 764, 765, 766, 767, 768, 769, 770] (by decide +kernel) (by decide +kernel)
set_option maxRecDepth 20000 in
theorem gL_law_X6_makes : GoodIn wsL_law (wsV RL 100 RX6 yX6_makes wsX6_makes) := goodIn_app (goodIn_of _ (by decide +kernel)) ggL_law_X6_makes
set_option maxRecDepth 20000 in
theorem ggL_law_X5_dream : GoodIn wsL_law wsX5_dream := goodIn_r _ [627, 15, 95, 96, 97, 14, 98, 99, 39, 100, 101, 102, 103, 249, 250, 251, 252, 108, 109, 110, 111, 129, 130, 131, 132, 133, 134, 135, 136, 137, 138, 139, 140, 600, 601, 602, 603, 604, 605, 606, 628, 629, 630, 2, 631, 16, 595, 596, 597, 598, 599, 258, 259, 260, 183, 184, 185, 186, 632, 633, 634, 635, 747, 748, 749, 750, 751, 752, 753, 754, 771] (by decide +kernel) (by decide +kernel)
set_option maxRecDepth 20000 in
theorem gL_law_X5_dream : GoodIn wsL_law (wsV RL 101 RX5 yX5_dream wsX5_dream) := goodIn_app (goodIn_of _ (by decide +kernel)) ggL_law_X5_dream
set_option maxRecDepth 20000 in
theorem ggL_law_X6_dream : GoodIn wsL_law wsX6_dream := goodIn_r _ [639, 77, 78, 116, 117, 5, 118, 119, 120, 121, 265, 266, 267, 122, 123, 124, 611, 612, 613, 614, 615, 616, 617, 618, 619, 620, 621, 622, 623, 276, 277, 278, 145, 146, 147, 148, 149, 150, 755, 756, 757, 758, 759, 760, 761, 762, 763, 764, 765, 766, 767, 768, 769, 770] (by decide +kernel) (by decide +kernel)
set_option maxRecDepth 20000 in
theorem gL_law_X6_dream : GoodIn wsL_law (wsV RL 104 RX6 yX6_dream wsX6_dream) := goodIn_app (goodIn_of _ (by decide +kernel)) ggL_law_X6_dream
set_option maxRecDepth 20000 in
theorem ggL_law_X5_ladder : GoodIn wsL_law wsX5_ladder := goodIn_r _ [643, 21, 592, 593, 2, 594, 644, 545, 546, 20, 547, 44, 645, 646, 647, 648, 649, 650, 651, 652, 653, 654, 655, 656, 554, 555, 556, 49, 557, 451, 452, 453, 558, 559, 560, 561, 747, 748, 749, 750, 751, 752, 753, 754, 772, 773] (by decide +kernel) (by decide +kernel)
set_option maxRecDepth 20000 in
theorem gL_law_X5_ladder : GoodIn wsL_law (wsV RL 105 RX5 yX5_ladder wsX5_ladder) := goodIn_app (goodIn_of _ (by decide +kernel)) ggL_law_X5_ladder
set_option maxRecDepth 20000 in
theorem ggL_law_X6_ladder : GoodIn wsL_law wsX6_ladder := goodIn_r _ [660, 661, 119, 120, 5, 121, 615, 616, 617, 618, 619, 620, 621, 622, 623, 662, 663, 664, 665, 666, 667, 668, 669, 670, 671, 672, 90, 673, 674, 675, 676, 755, 756, 757, 758, 759, 760, 761, 762, 763, 764, 765, 766, 767, 768, 769, 770] (by decide +kernel) (by decide +kernel)
set_option maxRecDepth 20000 in
theorem gL_law_X6_ladder : GoodIn wsL_law (wsV RL 108 RX6 yX6_ladder wsX6_ladder) := goodIn_app (goodIn_of _ (by decide +kernel)) ggL_law_X6_ladder
set_option maxRecDepth 20000 in
theorem ggL_law_X5_rise : GoodIn wsL_law wsX5_rise := goodIn_r _ [680, 681, 15, 21, 95, 96, 97, 14, 98, 99, 39, 100, 101, 102, 103, 129, 130, 131, 132, 133, 134, 135, 136, 137, 138, 139, 140, 644, 545, 546, 20, 547, 44, 682, 683, 684, 2, 685, 257, 258, 259, 260, 183, 184, 185, 186, 104, 105, 106, 107, 108, 109, 110, 111, 656, 554, 555, 556, 49, 557, 451, 452, 453, 558, 559, 560, 561, 747, 748, 749, 750, 751, 752, 753, 754, 771, 772, 773] (by decide +kernel) (by decide +kernel)
set_option maxRecDepth 20000 in
theorem gL_law_X5_rise : GoodIn wsL_law (wsV RL 109 RX5 yX5_rise wsX5_rise) := goodIn_app (goodIn_of _ (by decide +kernel)) ggL_law_X5_rise
set_option maxRecDepth 20000 in
theorem ggL_law_X6_rise : GoodIn wsL_law wsX6_rise := goodIn_r _ [689, 77, 690, 661, 116, 117, 5, 118, 119, 120, 121, 145, 146, 147, 148, 149, 150, 276, 277, 278, 122, 123, 124, 669, 670, 671, 672, 90, 673, 674, 675, 676, 755, 756, 757, 758, 759, 760, 761, 762, 763, 764, 765, 766, 767, 768, 769, 770] (by decide +kernel) (by decide +kernel)
set_option maxRecDepth 20000 in
theorem gL_law_X6_rise : GoodIn wsL_law (wsV RL 113 RX6 yX6_rise wsX6_rise) := goodIn_app (goodIn_of _ (by decide +kernel)) ggL_law_X6_rise
set_option maxRecDepth 20000 in
theorem ggL_law_X5_step : GoodIn wsL_law wsX5_step := goodIn_r _ [694, 15, 21, 95, 96, 97, 14, 98, 99, 39, 100, 101, 102, 103, 695, 296, 297, 298, 696, 697, 698, 699, 137, 138, 139, 140, 129, 130, 131, 132, 133, 134, 135, 136, 257, 258, 259, 260, 183, 184, 185, 186, 104, 105, 106, 107, 108, 109, 110, 111, 644, 545, 546, 20, 547, 44, 682, 683, 684, 2, 685, 656, 554, 555, 556, 49, 557, 451, 452, 453, 558, 559, 560, 561, 747, 748, 749, 750, 751, 752, 753, 754, 771, 772, 773] (by decide +kernel) (by decide +kernel)
set_option maxRecDepth 20000 in
theorem gL_law_X5_step : GoodIn wsL_law (wsV RL 114 RX5 yX5_step wsX5_step) := goodIn_app (goodIn_of _ (by decide +kernel)) ggL_law_X5_step
set_option maxRecDepth 20000 in
theorem ggL_law_X6_step : GoodIn wsL_law wsX6_step := goodIn_r _ [703, 77, 661, 116, 117, 5, 118, 119, 120, 121, 172, 173, 174, 145, 146, 147, 148, 149, 150, 704, 705, 706, 276, 277, 278, 122, 123, 124, 669, 670, 671, 672, 90, 673, 674, 675, 676, 755, 756, 757, 758, 759, 760, 761, 762, 763, 764, 765, 766, 767, 768, 769, 770] (by decide +kernel) (by decide +kernel)
set_option maxRecDepth 20000 in
theorem gL_law_X6_step : GoodIn wsL_law (wsV RL 117 RX6 yX6_step wsX6_step) := goodIn_app (goodIn_of _ (by decide +kernel)) ggL_law_X6_step
set_option maxRecDepth 20000 in
theorem ggL_law_X5_shape : GoodIn wsL_law wsX5_shape := goodIn_r _ [710, 15, 95, 96, 97, 14, 98, 99, 39, 100, 101, 102, 103, 164, 165, 166, 167, 600, 601, 602, 603, 604, 605, 606, 695, 296, 297, 298, 256, 138, 139, 140, 747, 748, 749, 750, 751, 752, 753, 754, 771] (by decide +kernel) (by decide +kernel)
set_option maxRecDepth 20000 in
theorem gL_law_X5_shape : GoodIn wsL_law (wsV RL 118 RX5 yX5_shape wsX5_shape) := goodIn_app (goodIn_of _ (by decide +kernel)) ggL_law_X5_shape
set_option maxRecDepth 20000 in
theorem ggL_law_X6_shape : GoodIn wsL_law wsX6_shape := goodIn_r _ [714, 77, 116, 117, 5, 118, 119, 120, 121, 172, 173, 174, 704, 705, 706, 755, 756, 757, 758, 759, 760, 761, 762, 763, 764, 765, 766, 767, 768, 769, 770] (by decide +kernel) (by decide +kernel)
set_option maxRecDepth 20000 in
theorem gL_law_X6_shape : GoodIn wsL_law (wsV RL 121 RX6 yX6_shape wsX6_shape) := goodIn_app (goodIn_of _ (by decide +kernel)) ggL_law_X6_shape
set_option maxRecDepth 20000 in
theorem ggL_law_X5_avoids : GoodIn wsL_law wsX5_avoids := goodIn_r _ [718, 15, 95, 96, 97, 14, 98, 99, 39, 100, 101, 102, 103, 719, 720, 721, 722, 723, 724, 725, 726, 727, 345, 47, 346, 137, 138, 139, 140, 728, 729, 730, 731, 732, 733, 734, 735, 736, 46, 48, 747, 748, 749, 750, 751, 752, 753, 754, 771] (by decide +kernel) (by decide +kernel)
set_option maxRecDepth 20000 in
theorem gL_law_X5_avoids : GoodIn wsL_law (wsV RL 122 RX5 yX5_avoids wsX5_avoids) := goodIn_app (goodIn_of _ (by decide +kernel)) ggL_law_X5_avoids
set_option maxRecDepth 20000 in
theorem ggL_law_X6_avoids : GoodIn wsL_law wsX6_avoids := goodIn_r _ [740, 77, 116, 117, 5, 118, 119, 120, 121, 741, 742, 743, 744, 745, 746, 755, 756, 757, 758, 759, 760, 761, 762, 763, 764, 765, 766, 767, 768, 769, 770] (by decide +kernel) (by decide +kernel)
set_option maxRecDepth 20000 in
theorem gL_law_X6_avoids : GoodIn wsL_law (wsV RL 125 RX6 yX6_avoids wsX6_avoids) := goodIn_app (goodIn_of _ (by decide +kernel)) ggL_law_X6_avoids
