set_option maxRecDepth 20000 in
theorem ggL_law_X5_init : GoodIn wsL_law wsX5_init := goodIn_r _ [8, 9, 10, 11, 12, 13, 14, 15, 16, 17, 18, 19, 20, 21, 22, 23, 24, 25, 26, 27, 28, 29, 30, 31, 32, 33, 34, 35, 36, 37, 38, 39, 40, 41, 42, 43, 44, 45, 46, 47, 48, 49, 50, 51, 52, 53, 54, 55, 56, 57, 58, 59, 60, 61, 62, 63, 64, 65, 66, 67, 68, 69, 70, 71, 72, 73, 74, 75, 76, 77, 78, 746, 747, 748, 749, 750, 751, 752, 753, 754, 755, 756, 757, 758, 713, 714, 715, 716, 717, 718, 719, 759, 760, 761, 762, 763, 764, 765, 766, 767, 768, 769, 770, 771, 772, 773, 774, 775] rfl (by decide +kernel)
set_option maxRecDepth 20000 in
theorem gL_law_X5_init : GoodIn wsL_law (wsX5_init) := ggL_law_X5_init
set_option maxRecDepth 20000 in
theorem ggL_law_X6_init : GoodIn wsL_law wsX6_init := goodIn_r _ [81, 82, 10, 11, 37, 83, 84, 85, 43, 86, 87, 88, 89, 90, 91, 92, 93, 94, 95, 96, 97, 98, 99, 100, 101, 102, 103, 104, 720, 721, 722, 723, 724, 725, 726, 727, 728, 729, 730, 731, 732, 733, 734, 735, 736, 737, 738, 739, 740, 741, 742, 743, 744, 745] rfl (by decide +kernel)
set_option maxRecDepth 20000 in
theorem gL_law_X6_init : GoodIn wsL_law (wsX6_init) := ggL_law_X6_init
set_option maxRecDepth 20000 in
theorem ggL_law_X5_node : GoodIn wsL_law wsX5_node := goodIn_r _ [108, 15, 109, 110, 111, 112, 14, 113, 114, 115, 116, 117, 118, 119, 120, 121, 122, 38, 39, 40, 42, 41, 123, 47, 124, 713, 714, 715, 716, 717, 718, 719, 746, 747, 748, 749, 750, 751, 752, 753, 754, 755, 756, 757, 758] rfl (by decide +kernel)
set_option maxRecDepth 20000 in
theorem gL_law_X5_node : GoodIn wsL_law (wsV RL 13 RX5 yX5_node wsX5_node) := goodIn_app (goodIn_of _ (by decide +kernel)) ggL_law_X5_node
set_option maxRecDepth 20000 in
theorem ggL_law_X6_node : GoodIn wsL_law wsX6_node := goodIn_r _ [128, 129, 83, 84, 85, 89, 90, 130, 131, 132, 133, 5, 134, 135, 136, 137, 138, 720, 721, 722, 723, 724, 725, 726, 727, 728, 729, 730, 731, 732, 733, 734, 735, 736, 737, 738, 739, 740, 741, 742, 743, 744, 745] rfl (by decide +kernel)
set_option maxRecDepth 20000 in
theorem gL_law_X6_node : GoodIn wsL_law (wsV RL 17 RX6 yX6_node wsX6_node) := goodIn_app (goodIn_of _ (by decide +kernel)) ggL_law_X6_node
set_option maxRecDepth 20000 in
theorem ggL_law_X5_feed : GoodIn wsL_law wsX5_feed := goodIn_r _ [142, 15, 143, 144, 145, 146, 14, 147, 38, 114, 115, 116, 117, 118, 148, 713, 714, 715, 716, 717, 718, 719, 746, 747, 748, 749, 750, 751, 752, 753, 754, 755, 756, 757, 758] rfl (by decide +kernel)
set_option maxRecDepth 20000 in
theorem gL_law_X5_feed : GoodIn wsL_law (wsV RL 18 RX5 yX5_feed wsX5_feed) := goodIn_app (goodIn_of _ (by decide +kernel)) ggL_law_X5_feed
set_option maxRecDepth 20000 in
theorem ggL_law_X6_feed : GoodIn wsL_law wsX6_feed := goodIn_r _ [152, 84, 153, 154, 155, 5, 156, 83, 135, 136, 137, 138, 129, 132, 133, 134, 720, 721, 722, 723, 724, 725, 726, 727, 728, 729, 730, 731, 732, 733, 734, 735, 736, 737, 738, 739, 740, 741, 742, 743, 744, 745] rfl (by decide +kernel)
set_option maxRecDepth 20000 in
theorem gL_law_X6_feed : GoodIn wsL_law (wsV RL 22 RX6 yX6_feed wsX6_feed) := goodIn_app (goodIn_of _ (by decide +kernel)) ggL_law_X6_feed
set_option maxRecDepth 20000 in
theorem ggL_law_X5_output : GoodIn wsL_law wsX5_output := goodIn_r _ [160, 15, 161, 148, 115, 116, 14, 117, 118, 713, 714, 715, 716, 717, 718, 719, 746, 747, 748, 749, 750, 751, 752, 753, 754, 755, 756, 757, 758] rfl (by decide +kernel)
set_option maxRecDepth 20000 in
theorem gL_law_X5_output : GoodIn wsL_law (wsV RL 23 RX5 yX5_output wsX5_output) := goodIn_app (goodIn_of _ (by decide +kernel)) ggL_law_X5_output
set_option maxRecDepth 20000 in
theorem ggL_law_X6_output : GoodIn wsL_law wsX6_output := goodIn_r _ [165, 86, 135, 136, 137, 5, 138, 129, 132, 133, 134, 720, 721, 722, 723, 724, 725, 726, 727, 728, 729, 730, 731, 732, 733, 734, 735, 736, 737, 738, 739, 740, 741, 742, 743, 744, 745] rfl (by decide +kernel)
set_option maxRecDepth 20000 in
theorem gL_law_X6_output : GoodIn wsL_law (wsV RL 27 RX6 yX6_output wsX6_output) := goodIn_app (goodIn_of _ (by decide +kernel)) ggL_law_X6_output
set_option maxRecDepth 20000 in
theorem ggL_law_X5_price : GoodIn wsL_law wsX5_price := goodIn_r _ [169, 15, 170, 148, 115, 116, 14, 117, 118, 171, 172, 2, 173, 713, 714, 715, 716, 717, 718, 719, 746, 747, 748, 749, 750, 751, 752, 753, 754, 755, 756, 757, 758] rfl (by decide +kernel)
set_option maxRecDepth 20000 in
theorem gL_law_X5_price : GoodIn wsL_law (wsV RL 28 RX5 yX5_price wsX5_price) := goodIn_app (goodIn_of _ (by decide +kernel)) ggL_law_X5_price
set_option maxRecDepth 20000 in
theorem ggL_law_X6_price : GoodIn wsL_law wsX6_price := goodIn_r _ [177, 89, 135, 136, 137, 5, 138, 129, 132, 133, 134, 720, 721, 722, 723, 724, 725, 726, 727, 728, 729, 730, 731, 732, 733, 734, 735, 736, 737, 738, 739, 740, 741, 742, 743, 744, 745] rfl (by decide +kernel)
set_option maxRecDepth 20000 in
theorem gL_law_X6_price : GoodIn wsL_law (wsV RL 31 RX6 yX6_price wsX6_price) := goodIn_app (goodIn_of _ (by decide +kernel)) ggL_law_X6_price
set_option maxRecDepth 20000 in
theorem ggL_law_X5_about : GoodIn wsL_law wsX5_about := goodIn_r _ [181, 15, 148, 115, 116, 14, 117, 118, 182, 183, 184, 185, 38, 39, 40, 44, 45, 46, 42, 41, 713, 714, 715, 716, 717, 718, 719, 746, 747, 748, 749, 750, 751, 752, 753, 754, 755, 756, 757, 758] rfl (by decide +kernel)
set_option maxRecDepth 20000 in
theorem gL_law_X5_about : GoodIn wsL_law (wsV RL 32 RX5 yX5_about wsX5_about) := goodIn_app (goodIn_of _ (by decide +kernel)) ggL_law_X5_about
set_option maxRecDepth 20000 in
theorem ggL_law_X6_about : GoodIn wsL_law wsX6_about := goodIn_r _ [189, 83, 84, 85, 86, 87, 88, 89, 90, 135, 136, 137, 5, 138, 129, 132, 133, 134, 720, 721, 722, 723, 724, 725, 726, 727, 728, 729, 730, 731, 732, 733, 734, 735, 736, 737, 738, 739, 740, 741, 742, 743, 744, 745] rfl (by decide +kernel)
set_option maxRecDepth 20000 in
theorem gL_law_X6_about : GoodIn wsL_law (wsV RL 35 RX6 yX6_about wsX6_about) := goodIn_app (goodIn_of _ (by decide +kernel)) ggL_law_X6_about
set_option maxRecDepth 20000 in
theorem ggL_law_X5_thrice : GoodIn wsL_law wsX5_thrice := goodIn_r _ [193, 15, 194, 195, 148, 115, 116, 14, 117, 118, 713, 714, 715, 716, 717, 718, 719, 746, 747, 748, 749, 750, 751, 752, 753, 754, 755, 756, 757, 758] rfl (by decide +kernel)
set_option maxRecDepth 20000 in
theorem gL_law_X5_thrice : GoodIn wsL_law (wsV RL 36 RX5 yX5_thrice wsX5_thrice) := goodIn_app (goodIn_of _ (by decide +kernel)) ggL_law_X5_thrice
set_option maxRecDepth 20000 in
theorem ggL_law_X6_thrice : GoodIn wsL_law wsX6_thrice := goodIn_r _ [199, 87, 88, 135, 136, 137, 5, 138, 129, 132, 133, 134, 720, 721, 722, 723, 724, 725, 726, 727, 728, 729, 730, 731, 732, 733, 734, 735, 736, 737, 738, 739, 740, 741, 742, 743, 744, 745] rfl (by decide +kernel)
set_option maxRecDepth 20000 in
theorem gL_law_X6_thrice : GoodIn wsL_law (wsV RL 39 RX6 yX6_thrice wsX6_thrice) := goodIn_app (goodIn_of _ (by decide +kernel)) ggL_law_X6_thrice
set_option maxRecDepth 20000 in
theorem ggL_law_X5_vote : GoodIn wsL_law wsX5_vote := goodIn_r _ [203, 15, 194, 195, 144, 145, 146, 14, 147, 38, 114, 115, 116, 117, 118, 713, 714, 715, 716, 717, 718, 719, 746, 747, 748, 749, 750, 751, 752, 753, 754, 755, 756, 757, 758] rfl (by decide +kernel)
set_option maxRecDepth 20000 in
theorem gL_law_X5_vote : GoodIn wsL_law (wsV RL 40 RX5 yX5_vote wsX5_vote) := goodIn_app (goodIn_of _ (by decide +kernel)) ggL_law_X5_vote
set_option maxRecDepth 20000 in
theorem ggL_law_X6_vote : GoodIn wsL_law wsX6_vote := goodIn_r _ [207, 87, 88, 153, 154, 155, 5, 156, 83, 135, 136, 137, 138, 129, 132, 133, 134, 720, 721, 722, 723, 724, 725, 726, 727, 728, 729, 730, 731, 732, 733, 734, 735, 736, 737, 738, 739, 740, 741, 742, 743, 744, 745] rfl (by decide +kernel)
set_option maxRecDepth 20000 in
theorem gL_law_X6_vote : GoodIn wsL_law (wsV RL 43 RX6 yX6_vote wsX6_vote) := goodIn_app (goodIn_of _ (by decide +kernel)) ggL_law_X6_vote
set_option maxRecDepth 20000 in
theorem ggL_law_X5_ticks : GoodIn wsL_law wsX5_ticks := goodIn_r _ [211, 32, 713, 714, 715, 716, 717, 718, 719] rfl (by decide +kernel)
set_option maxRecDepth 20000 in
theorem gL_law_X5_ticks : GoodIn wsL_law (wsV RL 44 RX5 yX5_ticks wsX5_ticks) := goodIn_app (goodIn_of _ (by decide +kernel)) ggL_law_X5_ticks
set_option maxRecDepth 20000 in
theorem ggL_law_X6_ticks : GoodIn wsL_law wsX6_ticks := goodIn_r _ [215, 91, 132, 133, 5, 134, 720, 721, 722, 723, 724, 725, 726, 727, 728, 729, 730, 731, 732, 733, 734, 735, 736, 737, 738, 739, 740, 741, 742, 743, 744, 745] rfl (by decide +kernel)
set_option maxRecDepth 20000 in
theorem gL_law_X6_ticks : GoodIn wsL_law (wsV RL 48 RX6 yX6_ticks wsX6_ticks) := goodIn_app (goodIn_of _ (by decide +kernel)) ggL_law_X6_ticks
set_option maxRecDepth 20000 in
theorem ggL_law_X5_plain : GoodIn wsL_law wsX5_plain := goodIn_r _ [219, 15, 23, 19, 148, 115, 116, 14, 117, 118, 220, 221, 222, 22, 223, 64, 224, 225, 226, 227, 228, 229, 230, 231, 232, 18, 233, 53, 54, 56, 234, 235, 236, 237, 238, 239, 240, 241, 242, 243, 244, 245, 246, 247, 713, 714, 715, 716, 717, 718, 719, 746, 747, 748, 749, 750, 751, 752, 753, 754, 755, 756, 757, 758, 763, 759, 760, 761, 762] rfl (by decide +kernel)
set_option maxRecDepth 20000 in
theorem gL_law_X5_plain : GoodIn wsL_law (wsV RL 49 RX5 yX5_plain wsX5_plain) := goodIn_app (goodIn_of _ (by decide +kernel)) ggL_law_X5_plain
set_option maxRecDepth 20000 in
theorem ggL_law_X6_plain : GoodIn wsL_law wsX6_plain := goodIn_r _ [251, 93, 135, 136, 137, 5, 138, 129, 132, 133, 134, 252, 253, 254, 255, 83, 84, 85, 256, 257, 258, 259, 100, 102, 103, 90, 260, 261, 262, 720, 721, 722, 723, 724, 725, 726, 727, 728, 729, 730, 731, 732, 733, 734, 735, 736, 737, 738, 739, 740, 741, 742, 743, 744, 745] rfl (by decide +kernel)
set_option maxRecDepth 20000 in
theorem gL_law_X6_plain : GoodIn wsL_law (wsV RL 52 RX6 yX6_plain wsX6_plain) := goodIn_app (goodIn_of _ (by decide +kernel)) ggL_law_X6_plain
set_option maxRecDepth 20000 in
theorem ggL_law_X5_copy : GoodIn wsL_law wsX5_copy := goodIn_r _ [266, 15, 267, 268, 269, 14, 270, 114, 115, 116, 117, 118, 271, 272, 273, 274, 45, 275, 217, 218, 2, 219, 23, 19, 148, 220, 221, 222, 22, 223, 64, 224, 225, 226, 227, 228, 229, 230, 231, 232, 18, 233, 53, 54, 56, 234, 235, 236, 237, 238, 239, 240, 241, 242, 243, 244, 245, 246, 247, 713, 714, 715, 716, 717, 718, 719, 746, 747, 748, 749, 750, 751, 752, 753, 754, 755, 756, 757, 758, 763, 759, 760, 761, 762] rfl (by decide +kernel)
set_option maxRecDepth 20000 in
theorem gL_law_X5_copy : GoodIn wsL_law (wsV RL 53 RX5 yX5_copy wsX5_copy) := goodIn_app (goodIn_of _ (by decide +kernel)) ggL_law_X5_copy
