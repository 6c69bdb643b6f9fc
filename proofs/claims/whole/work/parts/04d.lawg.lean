set_option maxRecDepth 20000 in
theorem ggL_law_X6_harden : GoodIn wsL_law wsX6_harden := goodIn_r _ [567, 131, 129, 87, 88, 83, 90, 545, 546, 547, 5, 548, 499, 500, 501, 502, 97, 98, 84, 85, 549, 550, 551, 552, 89, 553, 554, 555, 516, 517, 518, 519, 720, 721, 722, 723, 724, 725, 726, 727, 728, 729, 730, 731, 732, 733, 734, 735, 736, 737, 738, 739, 740, 741, 742, 743, 744, 745] rfl (by decide +kernel)
set_option maxRecDepth 20000 in
theorem gL_law_X6_harden : GoodIn wsL_law (wsV RL 98 RX6 yX6_harden wsX6_harden) := goodIn_app (goodIn_of _ (by decide +kernel)) ggL_law_X6_harden
set_option maxRecDepth 20000 in
theorem ggL_law_X5_voter : GoodIn wsL_law wsX5_voter := goodIn_r _ [571, 33, 171, 172, 2, 173, 713, 714, 715, 716, 717, 718, 719] rfl (by decide +kernel)
set_option maxRecDepth 20000 in
theorem gL_law_X5_voter : GoodIn wsL_law (wsV RL 99 RX5 yX5_voter wsX5_voter) := goodIn_app (goodIn_of _ (by decide +kernel)) ggL_law_X5_voter
set_option maxRecDepth 20000 in
theorem ggL_law_X6_voter : GoodIn wsL_law wsX6_voter := goodIn_r _ [575, 92, 132, 133, 5, 134, 720, 721, 722, 723, 724, 725, 726, 727, 728, 729, 730, 731, 732, 733, 734, 735, 736, 737, 738, 739, 740, 741, 742, 743, 744, 745] rfl (by decide +kernel)
set_option maxRecDepth 20000 in
theorem gL_law_X6_voter : GoodIn wsL_law (wsV RL 102 RX6 yX6_voter wsX6_voter) := goodIn_app (goodIn_of _ (by decide +kernel)) ggL_law_X6_voter
set_option maxRecDepth 20000 in
theorem ggL_law_X5_cost : GoodIn wsL_law wsX5_cost := goodIn_r _ [579, 15, 109, 170, 195, 33, 427, 272, 273, 14, 274, 45, 713, 714, 715, 716, 717, 718, 719, 746, 747, 748, 749, 750, 751, 752, 753, 754, 755, 756, 757, 758] rfl (by decide +kernel)
set_option maxRecDepth 20000 in
theorem gL_law_X5_cost : GoodIn wsL_law (wsV RL 103 RX5 yX5_cost wsX5_cost) := goodIn_app (goodIn_of _ (by decide +kernel)) ggL_law_X5_cost
set_option maxRecDepth 20000 in
theorem ggL_law_X6_cost : GoodIn wsL_law wsX6_cost := goodIn_r _ [583, 129, 89, 88, 92, 284, 285, 286, 5, 287, 87, 720, 721, 722, 723, 724, 725, 726, 727, 728, 729, 730, 731, 732, 733, 734, 735, 736, 737, 738, 739, 740, 741, 742, 743, 744, 745] rfl (by decide +kernel)
set_option maxRecDepth 20000 in
theorem gL_law_X6_cost : GoodIn wsL_law (wsV RL 106 RX6 yX6_cost wsX6_cost) := goodIn_app (goodIn_of _ (by decide +kernel)) ggL_law_X6_cost
set_option maxRecDepth 20000 in
theorem ggL_law_X5_slow : GoodIn wsL_law wsX5_slow := goodIn_r _ [587, 15, 588, 589, 590, 14, 591, 118, 48, 38, 40, 39, 592, 593, 594, 595, 44, 124, 47, 46, 713, 714, 715, 716, 717, 718, 719, 746, 747, 748, 749, 750, 751, 752, 753, 754, 755, 756, 757, 758] rfl (by decide +kernel)
set_option maxRecDepth 20000 in
theorem gL_law_X5_slow : GoodIn wsL_law (wsV RL 107 RX5 yX5_slow wsX5_slow) := goodIn_app (goodIn_of _ (by decide +kernel)) ggL_law_X5_slow
set_option maxRecDepth 20000 in
theorem ggL_law_X6_slow : GoodIn wsL_law wsX6_slow := goodIn_r _ [599, 129, 83, 99, 84, 85, 86, 88, 720, 721, 722, 723, 724, 725, 726, 727, 728, 729, 730, 731, 732, 733, 734, 735, 736, 737, 738, 739, 740, 741, 742, 743, 744, 745] rfl (by decide +kernel)
set_option maxRecDepth 20000 in
theorem gL_law_X6_slow : GoodIn wsL_law (wsV RL 110 RX6 yX6_slow wsX6_slow) := goodIn_app (goodIn_of _ (by decide +kernel)) ggL_law_X6_slow
set_option maxRecDepth 20000 in
theorem ggL_law_X5_sheet : GoodIn wsL_law wsX5_sheet := goodIn_r _ [603, 19, 604, 605, 2, 606, 607, 608, 609, 610, 611, 612, 613, 614, 615, 616, 617, 18, 618, 53, 54, 56, 57, 58, 59, 60, 713, 714, 715, 716, 717, 718, 719, 759, 760, 761, 762] rfl (by decide +kernel)
set_option maxRecDepth 20000 in
theorem gL_law_X5_sheet : GoodIn wsL_law (wsV RL 111 RX5 yX5_sheet wsX5_sheet) := goodIn_app (goodIn_of _ (by decide +kernel)) ggL_law_X5_sheet
set_option maxRecDepth 20000 in
theorem ggL_law_X6_sheet : GoodIn wsL_law wsX6_sheet := goodIn_r _ [622, 100, 101, 102, 103, 623, 624, 5, 625, 132, 133, 134, 626, 627, 628, 629, 630, 720, 721, 722, 723, 724, 725, 726, 727, 728, 729, 730, 731, 732, 733, 734, 735, 736, 737, 738, 739, 740, 741, 742, 743, 744, 745] rfl (by decide +kernel)
set_option maxRecDepth 20000 in
theorem gL_law_X6_sheet : GoodIn wsL_law (wsV RL 114 RX6 yX6_sheet wsX6_sheet) := goodIn_app (goodIn_of _ (by decide +kernel)) ggL_law_X6_sheet
set_option maxRecDepth 20000 in
theorem ggL_law_X5_lose : GoodIn wsL_law wsX5_lose := goodIn_r _ [634, 19, 635, 636, 604, 605, 2, 606, 610, 611, 612, 613, 614, 713, 714, 715, 716, 717, 718, 719, 759, 760, 761, 762] rfl (by decide +kernel)
set_option maxRecDepth 20000 in
theorem gL_law_X5_lose : GoodIn wsL_law (wsV RL 115 RX5 yX5_lose wsX5_lose) := goodIn_app (goodIn_of _ (by decide +kernel)) ggL_law_X5_lose
set_option maxRecDepth 20000 in
theorem ggL_law_X6_lose : GoodIn wsL_law wsX6_lose := goodIn_r _ [640, 100, 102, 623, 624, 5, 625, 132, 133, 134, 626, 627, 628, 629, 630, 720, 721, 722, 723, 724, 725, 726, 727, 728, 729, 730, 731, 732, 733, 734, 735, 736, 737, 738, 739, 740, 741, 742, 743, 744, 745] rfl (by decide +kernel)
set_option maxRecDepth 20000 in
theorem gL_law_X6_lose : GoodIn wsL_law (wsV RL 118 RX6 yX6_lose wsX6_lose) := goodIn_app (goodIn_of _ (by decide +kernel)) ggL_law_X6_lose
set_option maxRecDepth 20000 in
theorem ggL_law_X5_put : GoodIn wsL_law wsX5_put := goodIn_r _ [644, 19, 645, 604, 605, 2, 606, 607, 608, 609, 646, 647, 648, 18, 649, 53, 54, 610, 611, 612, 613, 614, 650, 651, 652, 713, 714, 715, 716, 717, 718, 719, 759, 760, 761, 762] rfl (by decide +kernel)
set_option maxRecDepth 20000 in
theorem gL_law_X5_put : GoodIn wsL_law (wsV RL 119 RX5 yX5_put wsX5_put) := goodIn_app (goodIn_of _ (by decide +kernel)) ggL_law_X5_put
set_option maxRecDepth 20000 in
theorem ggL_law_X6_put : GoodIn wsL_law wsX6_put := goodIn_r _ [656, 103, 623, 624, 5, 625, 132, 133, 134, 657, 658, 659, 660, 100, 101, 102, 626, 627, 628, 629, 630, 720, 721, 722, 723, 724, 725, 726, 727, 728, 729, 730, 731, 732, 733, 734, 735, 736, 737, 738, 739, 740, 741, 742, 743, 744, 745] rfl (by decide +kernel)
set_option maxRecDepth 20000 in
theorem gL_law_X6_put : GoodIn wsL_law (wsV RL 123 RX6 yX6_put wsX6_put) := goodIn_app (goodIn_of _ (by decide +kernel)) ggL_law_X6_put
set_option maxRecDepth 20000 in
theorem ggL_law_X5_get : GoodIn wsL_law wsX5_get := goodIn_r _ [664, 665, 19, 614, 645, 604, 605, 2, 606, 607, 608, 609, 646, 647, 648, 18, 649, 53, 54, 713, 714, 715, 716, 717, 718, 719, 759, 760, 761, 762] rfl (by decide +kernel)
set_option maxRecDepth 20000 in
theorem gL_law_X5_get : GoodIn wsL_law (wsV RL 124 RX5 yX5_get wsX5_get) := goodIn_app (goodIn_of _ (by decide +kernel)) ggL_law_X5_get
set_option maxRecDepth 20000 in
theorem ggL_law_X6_get : GoodIn wsL_law wsX6_get := goodIn_r _ [669, 670, 630, 103, 623, 624, 5, 625, 132, 133, 134, 657, 658, 659, 660, 100, 101, 102, 720, 721, 722, 723, 724, 725, 726, 727, 728, 729, 730, 731, 732, 733, 734, 735, 736, 737, 738, 739, 740, 741, 742, 743, 744, 745] rfl (by decide +kernel)
set_option maxRecDepth 20000 in
theorem gL_law_X6_get : GoodIn wsL_law (wsV RL 127 RX6 yX6_get wsX6_get) := goodIn_app (goodIn_of _ (by decide +kernel)) ggL_law_X6_get
set_option maxRecDepth 20000 in
theorem ggL_law_X5_move : GoodIn wsL_law wsX5_move := goodIn_r _ [674, 19, 635, 645, 675, 379, 380, 381, 604, 605, 2, 606, 610, 611, 612, 613, 614, 676, 677, 678, 18, 679, 54, 713, 714, 715, 716, 717, 718, 719, 759, 760, 761, 762] rfl (by decide +kernel)
set_option maxRecDepth 20000 in
theorem gL_law_X5_move : GoodIn wsL_law (wsV RL 128 RX5 yX5_move wsX5_move) := goodIn_app (goodIn_of _ (by decide +kernel)) ggL_law_X5_move
set_option maxRecDepth 20000 in
theorem ggL_law_X6_move : GoodIn wsL_law wsX6_move := goodIn_r _ [683, 100, 101, 102, 104, 103, 623, 624, 5, 625, 132, 133, 134, 626, 627, 628, 629, 630, 720, 721, 722, 723, 724, 725, 726, 727, 728, 729, 730, 731, 732, 733, 734, 735, 736, 737, 738, 739, 740, 741, 742, 743, 744, 745] rfl (by decide +kernel)
set_option maxRecDepth 20000 in
theorem gL_law_X6_move : GoodIn wsL_law (wsV RL 132 RX6 yX6_move wsX6_move) := goodIn_app (goodIn_of _ (by decide +kernel)) ggL_law_X6_move
set_option maxRecDepth 20000 in
theorem ggL_law_X5_count : GoodIn wsL_law wsX5_count := goodIn_r _ [687, 15, 109, 688, 507, 161, 194, 195, 19, 614, 32, 33, 689, 690, 2, 691, 713, 714, 715, 716, 717, 718, 719, 746, 747, 748, 749, 750, 751, 752, 753, 754, 755, 756, 757, 758, 759, 760, 761, 762] rfl (by decide +kernel)
set_option maxRecDepth 20000 in
theorem gL_law_X5_count : GoodIn wsL_law (wsV RL 133 RX5 yX5_count wsX5_count) := goodIn_app (goodIn_of _ (by decide +kernel)) ggL_law_X5_count
set_option maxRecDepth 20000 in
theorem ggL_law_X6_count : GoodIn wsL_law wsX6_count := goodIn_r _ [695, 129, 86, 87, 88, 130, 131, 630, 91, 92, 720, 721, 722, 723, 724, 725, 726, 727, 728, 729, 730, 731, 732, 733, 734, 735, 736, 737, 738, 739, 740, 741, 742, 743, 744, 745] rfl (by decide +kernel)
set_option maxRecDepth 20000 in
theorem gL_law_X6_count : GoodIn wsL_law (wsV RL 136 RX6 yX6_count wsX6_count) := goodIn_app (goodIn_of _ (by decide +kernel)) ggL_law_X6_count
set_option maxRecDepth 20000 in
theorem ggL_law_X5_digest : GoodIn wsL_law wsX5_digest := goodIn_r _ [699, 700, 701, 15, 109, 23, 19, 161, 32, 702, 685, 686, 2, 687, 688, 507, 194, 195, 614, 33, 689, 690, 691, 182, 183, 184, 14, 185, 38, 39, 40, 44, 45, 46, 42, 41, 220, 221, 222, 22, 223, 64, 224, 225, 226, 227, 228, 229, 230, 231, 232, 18, 233, 53, 54, 56, 234, 235, 236, 237, 238, 239, 240, 241, 242, 243, 244, 245, 246, 247, 703, 577, 578, 579, 170, 427, 272, 273, 274, 713, 714, 715, 716, 717, 718, 719, 746, 747, 748, 749, 750, 751, 752, 753, 754, 755, 756, 757, 758, 759, 760, 761, 762, 763] rfl (by decide +kernel)
set_option maxRecDepth 20000 in
theorem gL_law_X5_digest : GoodIn wsL_law (wsV RL 137 RX5 yX5_digest wsX5_digest) := goodIn_app (goodIn_of _ (by decide +kernel)) ggL_law_X5_digest
set_option maxRecDepth 20000 in
theorem ggL_law_X6_digest : GoodIn wsL_law wsX6_digest := goodIn_r _ [707, 708, 709, 129, 91, 86, 93, 710, 693, 694, 5, 695, 87, 88, 130, 131, 630, 92, 711, 187, 188, 189, 83, 84, 85, 89, 90, 135, 136, 137, 138, 132, 133, 134, 252, 253, 254, 255, 256, 257, 258, 259, 100, 102, 103, 260, 261, 262, 712, 581, 582, 583, 284, 285, 286, 287, 720, 721, 722, 723, 724, 725, 726, 727, 728, 729, 730, 731, 732, 733, 734, 735, 736, 737, 738, 739, 740, 741, 742, 743, 744, 745] rfl (by decide +kernel)
set_option maxRecDepth 20000 in
theorem gL_law_X6_digest : GoodIn wsL_law (wsV RL 141 RX6 yX6_digest wsX6_digest) := goodIn_app (goodIn_of _ (by decide +kernel)) ggL_law_X6_digest
