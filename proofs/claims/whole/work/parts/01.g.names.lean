theorem dX12_hand_11 : decode cX12_hand 11 = .ok (.iconst (-1), 1) := by decide +kernel
theorem dX12_hand_12 : decode cX12_hand 12 = .ok (.if_icmp .eq 16, 3) := by decide +kernel
theorem dX12_hand_15 : decode cX12_hand 15 = .ok (.aload_n 0, 1) := by decide +kernel
theorem dX12_hand_16 : decode cX12_hand 16 = .ok (.getfield 40, 3) := by decide +kernel
theorem dX12_hand_19 : decode cX12_hand 19 = .ok (.iload 6, 2) := by decide +kernel
theorem dX12_hand_21 : decode cX12_hand 21 = .ok (.dup2, 1) := by decide +kernel
theorem dX12_hand_22 : decode cX12_hand 22 = .ok (.iaload, 1) := by decide +kernel
theorem dX12_hand_23 : decode cX12_hand 23 = .ok (.iconst 1, 1) := by decide +kernel
theorem dX12_hand_24 : decode cX12_hand 24 = .ok (.iadd, 1) := by decide +kernel
theorem dX12_hand_25 : decode cX12_hand 25 = .ok (.iastore, 1) := by decide +kernel
theorem dX12_hand_26 : decode cX12_hand 26 = .ok (.iconst (-1), 1) := by decide +kernel
theorem dX12_hand_27 : decode cX12_hand 27 = .ok (.ireturn, 1) := by decide +kernel
theorem dX12_hand_28 : decode cX12_hand 28 = .ok (.aload_n 0, 1) := by decide +kernel
theorem dX12_hand_29 : decode cX12_hand 29 = .ok (.iload_n 1, 1) := by decide +kernel
theorem dX12_hand_30 : decode cX12_hand 30 = .ok (.iload_n 2, 1) := by decide +kernel
theorem dX12_hand_31 : decode cX12_hand 31 = .ok (.iload_n 3, 1) := by decide +kernel
theorem dX12_hand_32 : decode cX12_hand 32 = .ok (.lload 4, 2) := by decide +kernel
theorem dX12_hand_34 : decode cX12_hand 34 = .ok (.invokevirtual 300, 3) := by decide +kernel
theorem dX12_hand_37 : decode cX12_hand 37 = .ok (.ireturn, 1) := by decide +kernel
set_option maxRecDepth 20000 in
theorem ggX12_peel_X12_hand : GoodIn wsX12_peel wsX12_hand := goodIn_r _ [5, 6, 7, 8, 9, 4, 10, 11, 12, 13, 14, 15, 16, 17, 18, 19, 20, 21, 22, 23, 24, 25, 26, 27, 28, 29, 30, 31, 32, 33, 34, 35, 36, 37, 38, 39, 40, 41, 42, 43, 44, 45, 46, 47, 48, 49, 50, 51, 52, 53, 54, 55, 56, 57, 58, 59, 60, 61, 62, 63, 64, 65, 66, 67, 68, 69, 70, 71, 72, 73, 74, 75, 76, 77, 78, 79, 80, 81, 82, 83, 84, 85, 86, 87, 88, 89, 90, 91, 92, 93, 94, 95, 96, 97, 98, 99, 100, 101, 102, 103, 104, 105, 106, 107, 108, 109, 110, 111, 112, 113, 114, 115, 116, 117, 118, 119, 120, 121, 122, 123, 124, 125, 126, 127, 128, 129, 130, 131, 132, 133, 134, 135, 136, 137, 138, 139, 140, 141, 142, 143, 144, 145, 146, 147, 148, 149, 150, 151, 152, 153, 154, 155, 156, 157, 158, 159, 160, 161, 162, 163, 164, 165, 166, 167, 168, 169, 170, 171, 172, 173, 174, 175, 176, 177, 178, 179, 180, 181, 182, 183, 184, 185, 186, 187, 188, 189, 190, 191, 192, 193, 194, 195, 196, 197, 198, 199, 200, 201, 202, 203, 204, 205, 206, 207, 208, 209, 210, 211, 212, 213, 214] (by decide +kernel) (by decide +kernel)
set_option maxRecDepth 20000 in
theorem gX12_peel_X12_hand : GoodIn wsX12_peel (wsV RX12 303 RX12 yX12_hand wsX12_hand) := goodIn_app (goodIn_of _ (by decide +kernel)) ggX12_peel_X12_hand
theorem dX12_peel_0 : decode cX12_peel 0 = .ok (.aload_n 0, 1) := by decide +kernel
theorem dX12_peel_1 : decode cX12_peel 1 = .ok (.iconst 0, 1) := by decide +kernel
theorem dX12_peel_2 : decode cX12_peel 2 = .ok (.iconst 0, 1) := by decide +kernel
theorem dX12_peel_3 : decode cX12_peel 3 = .ok (.iconst 0, 1) := by decide +kernel
theorem dX12_peel_4 : decode cX12_peel 4 = .ok (.lconst 0, 1) := by decide +kernel
theorem dX12_peel_5 : decode cX12_peel 5 = .ok (.invokevirtual 303, 3) := by decide +kernel
theorem dX12_peel_8 : decode cX12_peel 8 = .ok (.ireturn, 1) := by decide +kernel
set_option maxRecDepth 20000 in
theorem ggX12_round_X12_hand : GoodIn wsX12_round wsX12_hand := goodIn_r _ [5, 6, 7, 8, 9, 4, 10, 11, 12, 13, 14, 15, 16, 17, 18, 19, 20, 21, 22, 23, 24, 25, 26, 27, 28, 29, 30, 31, 32, 33, 34, 35, 36, 37, 38, 39, 40, 41, 42, 43, 44, 45, 46, 47, 48, 49, 50, 51, 52, 53, 54, 55, 56, 57, 58, 59, 60, 61, 62, 63, 64, 65, 66, 67, 68, 69, 70, 71, 72, 73, 74, 75, 76, 77, 78, 79, 80, 81, 82, 83, 84, 85, 86, 87, 88, 89, 90, 91, 92, 93, 94, 95, 96, 97, 98, 99, 100, 101, 102, 103, 104, 105, 106, 107, 108, 109, 110, 111, 112, 113, 114, 115, 116, 117, 118, 119, 120, 121, 122, 123, 124, 125, 126, 127, 128, 129, 130, 131, 132, 133, 134, 135, 136, 137, 138, 139, 140, 141, 142, 143, 144, 145, 146, 147, 148, 149, 150, 151, 152, 153, 154, 155, 156, 157, 158, 159, 160, 161, 162, 163, 164, 165, 166, 167, 168, 169, 170, 171, 172, 173, 174, 175, 176, 177, 178, 179, 180, 181, 182, 183, 184, 185, 186, 187, 188, 189, 190, 191, 192, 193, 194, 195, 196, 197, 198, 199, 200, 201, 202, 203, 204, 205, 206, 207, 208, 209, 210, 211, 212, 213, 214] (by decide +kernel) (by decide +kernel)
set_option maxRecDepth 20000 in
theorem gX12_round_X12_hand : GoodIn wsX12_round (wsV RX12 303 RX12 yX12_hand wsX12_hand) := goodIn_app (goodIn_of _ (by decide +kernel)) ggX12_round_X12_hand
theorem dX12_round_0 : decode cX12_round 0 = .ok (.aload_n 0, 1) := by decide +kernel
theorem dX12_round_1 : decode cX12_round 1 = .ok (.iconst 1, 1) := by decide +kernel
theorem dX12_round_2 : decode cX12_round 2 = .ok (.iconst 0, 1) := by decide +kernel
theorem dX12_round_3 : decode cX12_round 3 = .ok (.iconst 0, 1) := by decide +kernel
theorem dX12_round_4 : decode cX12_round 4 = .ok (.lconst 0, 1) := by decide +kernel
theorem dX12_round_5 : decode cX12_round 5 = .ok (.invokevirtual 303, 3) := by decide +kernel
theorem dX12_round_8 : decode cX12_round 8 = .ok (.ireturn, 1) := by decide +kernel
set_option maxRecDepth 20000 in
theorem ggX12_tell_X12_hand : GoodIn wsX12_tell wsX12_hand := goodIn_r _ [5, 6, 7, 8, 9, 4, 10, 11, 12, 13, 14, 15, 16, 17, 18, 19, 20, 21, 22, 23, 24, 25, 26, 27, 28, 29, 30, 31, 32, 33, 34, 35, 36, 37, 38, 39, 40, 41, 42, 43, 44, 45, 46, 47, 48, 49, 50, 51, 52, 53, 54, 55, 56, 57, 58, 59, 60, 61, 62, 63, 64, 65, 66, 67, 68, 69, 70, 71, 72, 73, 74, 75, 76, 77, 78, 79, 80, 81, 82, 83, 84, 85, 86, 87, 88, 89, 90, 91, 92, 93, 94, 95, 96, 97, 98, 99, 100, 101, 102, 103, 104, 105, 106, 107, 108, 109, 110, 111, 112, 113, 114, 115, 116, 117, 118, 119, 120, 121, 122, 123, 124, 125, 126, 127, 128, 129, 130, 131, 132, 133, 134, 135, 136, 137, 138, 139, 140, 141, 142, 143, 144, 145, 146, 147, 148, 149, 150, 151, 152, 153, 154, 155, 156, 157, 158, 159, 160, 161, 162, 163, 164, 165, 166, 167, 168, 169, 170, 171, 172, 173, 174, 175, 176, 177, 178, 179, 180, 181, 182, 183, 184, 185, 186, 187, 188, 189, 190, 191, 192, 193, 194, 195, 196, 197, 198, 199, 200, 201, 202, 203, 204, 205, 206, 207, 208, 209, 210, 211, 212, 213, 214] (by decide +kernel) (by decide +kernel)
set_option maxRecDepth 20000 in
theorem gX12_tell_X12_hand : GoodIn wsX12_tell (wsV RX12 303 RX12 yX12_hand wsX12_hand) := goodIn_app (goodIn_of _ (by decide +kernel)) ggX12_tell_X12_hand
theorem dX12_tell_0 : decode cX12_tell 0 = .ok (.aload_n 0, 1) := by decide +kernel
theorem dX12_tell_1 : decode cX12_tell 1 = .ok (.iconst 2, 1) := by decide +kernel
theorem dX12_tell_2 : decode cX12_tell 2 = .ok (.iload_n 1, 1) := by decide +kernel
theorem dX12_tell_3 : decode cX12_tell 3 = .ok (.iconst 0, 1) := by decide +kernel
theorem dX12_tell_4 : decode cX12_tell 4 = .ok (.lconst 0, 1) := by decide +kernel
theorem dX12_tell_5 : decode cX12_tell 5 = .ok (.invokevirtual 303, 3) := by decide +kernel
theorem dX12_tell_8 : decode cX12_tell 8 = .ok (.ireturn, 1) := by decide +kernel
set_option maxRecDepth 20000 in
theorem ggX12_forget_X12_hand : GoodIn wsX12_forget wsX12_hand := goodIn_r _ [5, 6, 7, 8, 9, 4, 10, 11, 12, 13, 14, 15, 16, 17, 18, 19, 20, 21, 22, 23, 24, 25, 26, 27, 28, 29, 30, 31, 32, 33, 34, 35, 36, 37, 38, 39, 40, 41, 42, 43, 44, 45, 46, 47, 48, 49, 50, 51, 52, 53, 54, 55, 56, 57, 58, 59, 60, 61, 62, 63, 64, 65, 66, 67, 68, 69, 70, 71, 72, 73, 74, 75, 76, 77, 78, 79, 80, 81, 82, 83, 84, 85, 86, 87, 88, 89, 90, 91, 92, 93, 94, 95, 96, 97, 98, 99, 100, 101, 102, 103, 104, 105, 106, 107, 108, 109, 110, 111, 112, 113, 114, 115, 116, 117, 118, 119, 120, 121, 122, 123, 124, 125, 126, 127, 128, 129, 130, 131, 132, 133, 134, 135, 136, 137, 138, 139, 140, 141, 142, 143, 144, 145, 146, 147, 148, 149, 150, 151, 152, 153, 154, 155, 156, 157, 158, 159, 160, 161, 162, 163, 164, 165, 166, 167, 168, 169, 170, 171, 172, 173, 174, 175, 176, 177, 178, 179, 180, 181, 182, 183, 184, 185, 186, 187, 188, 189, 190, 191, 192, 193, 194, 195, 196, 197, 198, 199, 200, 201, 202, 203, 204, 205, 206, 207, 208, 209, 210, 211, 212, 213, 214] (by decide +kernel) (by decide +kernel)
set_option maxRecDepth 20000 in
theorem gX12_forget_X12_hand : GoodIn wsX12_forget (wsV RX12 303 RX12 yX12_hand wsX12_hand) := goodIn_app (goodIn_of _ (by decide +kernel)) ggX12_forget_X12_hand
theorem dX12_forget_0 : decode cX12_forget 0 = .ok (.aload_n 0, 1) := by decide +kernel
theorem dX12_forget_1 : decode cX12_forget 1 = .ok (.iconst 3, 1) := by decide +kernel
theorem dX12_forget_2 : decode cX12_forget 2 = .ok (.iload_n 1, 1) := by decide +kernel
theorem dX12_forget_3 : decode cX12_forget 3 = .ok (.iconst 0, 1) := by decide +kernel
theorem dX12_forget_4 : decode cX12_forget 4 = .ok (.lconst 0, 1) := by decide +kernel
theorem dX12_forget_5 : decode cX12_forget 5 = .ok (.invokevirtual 303, 3) := by decide +kernel
theorem dX12_forget_8 : decode cX12_forget 8 = .ok (.ireturn, 1) := by decide +kernel
set_option maxRecDepth 20000 in
theorem ggX12_turn_X12_hand : GoodIn wsX12_turn wsX12_hand := goodIn_r _ [5, 6, 7, 8, 9, 4, 10, 11, 12, 13, 14, 15, 16, 17, 18, 19, 20, 21, 22, 23, 24, 25, 26, 27, 28, 29, 30, 31, 32, 33, 34, 35, 36, 37, 38, 39, 40, 41, 42, 43, 44, 45, 46, 47, 48, 49, 50, 51, 52, 53, 54, 55, 56, 57, 58, 59, 60, 61, 62, 63, 64, 65, 66, 67, 68, 69, 70, 71, 72, 73, 74, 75, 76, 77, 78, 79, 80, 81, 82, 83, 84, 85, 86, 87, 88, 89, 90, 91, 92, 93, 94, 95, 96, 97, 98, 99, 100, 101, 102, 103, 104, 105, 106, 107, 108, 109, 110, 111, 112, 113, 114, 115, 116, 117, 118, 119, 120, 121, 122, 123, 124, 125, 126, 127, 128, 129, 130, 131, 132, 133, 134, 135, 136, 137, 138, 139, 140, 141, 142, 143, 144, 145, 146, 147, 148, 149, 150, 151, 152, 153, 154, 155, 156, 157, 158, 159, 160, 161, 162, 163, 164, 165, 166, 167, 168, 169, 170, 171, 172, 173, 174, 175, 176, 177, 178, 179, 180, 181, 182, 183, 184, 185, 186, 187, 188, 189, 190, 191, 192, 193, 194, 195, 196, 197, 198, 199, 200, 201, 202, 203, 204, 205, 206, 207, 208, 209, 210, 211, 212, 213, 214] (by decide +kernel) (by decide +kernel)
set_option maxRecDepth 20000 in
theorem gX12_turn_X12_hand : GoodIn wsX12_turn (wsV RX12 303 RX12 yX12_hand wsX12_hand) := goodIn_app (goodIn_of _ (by decide +kernel)) ggX12_turn_X12_hand
theorem dX12_turn_0 : decode cX12_turn 0 = .ok (.aload_n 0, 1) := by decide +kernel
theorem dX12_turn_1 : decode cX12_turn 1 = .ok (.iconst 4, 1) := by decide +kernel
theorem dX12_turn_2 : decode cX12_turn 2 = .ok (.iload_n 1, 1) := by decide +kernel
theorem dX12_turn_3 : decode cX12_turn 3 = .ok (.iload_n 2, 1) := by decide +kernel
theorem dX12_turn_4 : decode cX12_turn 4 = .ok (.lconst 0, 1) := by decide +kernel
theorem dX12_turn_5 : decode cX12_turn 5 = .ok (.invokevirtual 303, 3) := by decide +kernel
theorem dX12_turn_8 : decode cX12_turn 8 = .ok (.ireturn, 1) := by decide +kernel
set_option maxRecDepth 20000 in
theorem ggX12_capture_X12_hand : GoodIn wsX12_capture wsX12_hand := goodIn_r _ [5, 6, 7, 8, 9, 4, 10, 11, 12, 13, 14, 15, 16, 17, 18, 19, 20, 21, 22, 23, 24, 25, 26, 27, 28, 29, 30, 31, 32, 33, 34, 35, 36, 37, 38, 39, 40, 41, 42, 43, 44, 45, 46, 47, 48, 49, 50, 51, 52, 53, 54, 55, 56, 57, 58, 59, 60, 61, 62, 63, 64, 65, 66, 67, 68, 69, 70, 71, 72, 73, 74, 75, 76, 77, 78, 79, 80, 81, 82, 83, 84, 85, 86, 87, 88, 89, 90, 91, 92, 93, 94, 95, 96, 97, 98, 99, 100, 101, 102, 103, 104, 105, 106, 107, 108, 109, 110, 111, 112, 113, 114, 115, 116, 117, 118, 119, 120, 121, 122, 123, 124, 125, 126, 127, 128, 129, 130, 131, 132, 133, 134, 135, 136, 137, 138, 139, 140, 141, 142, 143, 144, 145, 146, 147, 148, 149, 150, 151, 152, 153, 154, 155, 156, 157, 158, 159, 160, 161, 162, 163, 164, 165, 166, 167, 168, 169, 170, 171, 172, 173, 174, 175, 176, 177, 178, 179, 180, 181, 182, 183, 184, 185, 186, 187, 188, 189, 190, 191, 192, 193, 194, 195, 196, 197, 198, 199, 200, 201, 202, 203, 204, 205, 206, 207, 208, 209, 210, 211, 212, 213, 214] (by decide +kernel) (by decide +kernel)
set_option maxRecDepth 20000 in
theorem gX12_capture_X12_hand : GoodIn wsX12_capture (wsV RX12 303 RX12 yX12_hand wsX12_hand) := goodIn_app (goodIn_of _ (by decide +kernel)) ggX12_capture_X12_hand
theorem dX12_capture_0 : decode cX12_capture 0 = .ok (.aload_n 0, 1) := by decide +kernel
theorem dX12_capture_1 : decode cX12_capture 1 = .ok (.iconst 5, 1) := by decide +kernel
theorem dX12_capture_2 : decode cX12_capture 2 = .ok (.iload_n 1, 1) := by decide +kernel
theorem dX12_capture_3 : decode cX12_capture 3 = .ok (.iconst 0, 1) := by decide +kernel
theorem dX12_capture_4 : decode cX12_capture 4 = .ok (.lconst 0, 1) := by decide +kernel
theorem dX12_capture_5 : decode cX12_capture 5 = .ok (.invokevirtual 303, 3) := by decide +kernel
theorem dX12_capture_8 : decode cX12_capture 8 = .ok (.ireturn, 1) := by decide +kernel
set_option maxRecDepth 20000 in
theorem ggX12_draw__X12_hand : GoodIn wsX12_draw_ wsX12_hand := goodIn_r _ [5, 6, 7, 8, 9, 4, 10, 11, 12, 13, 14, 15, 16, 17, 18, 19, 20, 21, 22, 23, 24, 25, 26, 27, 28, 29, 30, 31, 32, 33, 34, 35, 36, 37, 38, 39, 40, 41, 42, 43, 44, 45, 46, 47, 48, 49, 50, 51, 52, 53, 54, 55, 56, 57, 58, 59, 60, 61, 62, 63, 64, 65, 66, 67, 68, 69, 70, 71, 72, 73, 74, 75, 76, 77, 78, 79, 80, 81, 82, 83, 84, 85, 86, 87, 88, 89, 90, 91, 92, 93, 94, 95, 96, 97, 98, 99, 100, 101, 102, 103, 104, 105, 106, 107, 108, 109, 110, 111, 112, 113, 114, 115, 116, 117, 118, 119, 120, 121, 122, 123, 124, 125, 126, 127, 128, 129, 130, 131, 132, 133, 134, 135, 136, 137, 138, 139, 140, 141, 142, 143, 144, 145, 146, 147, 148, 149, 150, 151, 152, 153, 154, 155, 156, 157, 158, 159, 160, 161, 162, 163, 164, 165, 166, 167, 168, 169, 170, 171, 172, 173, 174, 175, 176, 177, 178, 179, 180, 181, 182, 183, 184, 185, 186, 187, 188, 189, 190, 191, 192, 193, 194, 195, 196, 197, 198, 199, 200, 201, 202, 203, 204, 205, 206, 207, 208, 209, 210, 211, 212, 213, 214] (by decide +kernel) (by decide +kernel)
set_option maxRecDepth 20000 in
theorem gX12_draw__X12_hand : GoodIn wsX12_draw_ (wsV RX12 303 RX12 yX12_hand wsX12_hand) := goodIn_app (goodIn_of _ (by decide +kernel)) ggX12_draw__X12_hand
theorem dX12_draw__0 : decode cX12_draw_ 0 = .ok (.aload_n 0, 1) := by decide +kernel
theorem dX12_draw__1 : decode cX12_draw_ 1 = .ok (.bipush 6, 2) := by decide +kernel
theorem dX12_draw__3 : decode cX12_draw_ 3 = .ok (.iload_n 1, 1) := by decide +kernel
theorem dX12_draw__4 : decode cX12_draw_ 4 = .ok (.iconst 0, 1) := by decide +kernel
theorem dX12_draw__5 : decode cX12_draw_ 5 = .ok (.lload_n 2, 1) := by decide +kernel
theorem dX12_draw__6 : decode cX12_draw_ 6 = .ok (.invokevirtual 303, 3) := by decide +kernel
theorem dX12_draw__9 : decode cX12_draw_ 9 = .ok (.ireturn, 1) := by decide +kernel
set_option maxRecDepth 20000 in
theorem ggX12_swap_X12_hand : GoodIn wsX12_swap wsX12_hand := goodIn_r _ [5, 6, 7, 8, 9, 4, 10, 11, 12, 13, 14, 15, 16, 17, 18, 19, 20, 21, 22, 23, 24, 25, 26, 27, 28, 29, 30, 31, 32, 33, 34, 35, 36, 37, 38, 39, 40, 41, 42, 43, 44, 45, 46, 47, 48, 49, 50, 51, 52, 53, 54, 55, 56, 57, 58, 59, 60, 61, 62, 63, 64, 65, 66, 67, 68, 69, 70, 71, 72, 73, 74, 75, 76, 77, 78, 79, 80, 81, 82, 83, 84, 85, 86, 87, 88, 89, 90, 91, 92, 93, 94, 95, 96, 97, 98, 99, 100, 101, 102, 103, 104, 105, 106, 107, 108, 109, 110, 111, 112, 113, 114, 115, 116, 117, 118, 119, 120, 121, 122, 123, 124, 125, 126, 127, 128, 129, 130, 131, 132, 133, 134, 135, 136, 137, 138, 139, 140, 141, 142, 143, 144, 145, 146, 147, 148, 149, 150, 151, 152, 153, 154, 155, 156, 157, 158, 159, 160, 161, 162, 163, 164, 165, 166, 167, 168, 169, 170, 171, 172, 173, 174, 175, 176, 177, 178, 179, 180, 181, 182, 183, 184, 185, 186, 187, 188, 189, 190, 191, 192, 193, 194, 195, 196, 197, 198, 199, 200, 201, 202, 203, 204, 205, 206, 207, 208, 209, 210, 211, 212, 213, 214] (by decide +kernel) (by decide +kernel)
set_option maxRecDepth 20000 in
theorem gX12_swap_X12_hand : GoodIn wsX12_swap (wsV RX12 303 RX12 yX12_hand wsX12_hand) := goodIn_app (goodIn_of _ (by decide +kernel)) ggX12_swap_X12_hand
theorem dX12_swap_0 : decode cX12_swap 0 = .ok (.aload_n 0, 1) := by decide +kernel
theorem dX12_swap_1 : decode cX12_swap 1 = .ok (.bipush 8, 2) := by decide +kernel
theorem dX12_swap_3 : decode cX12_swap 3 = .ok (.iload_n 1, 1) := by decide +kernel
theorem dX12_swap_4 : decode cX12_swap 4 = .ok (.iload_n 2, 1) := by decide +kernel
theorem dX12_swap_5 : decode cX12_swap 5 = .ok (.lconst 0, 1) := by decide +kernel
theorem dX12_swap_6 : decode cX12_swap 6 = .ok (.invokevirtual 303, 3) := by decide +kernel
theorem dX12_swap_9 : decode cX12_swap 9 = .ok (.ireturn, 1) := by decide +kernel
set_option maxRecDepth 20000 in
theorem ggX12_file_X12_hand : GoodIn wsX12_file wsX12_hand := goodIn_r _ [5, 6, 7, 8, 9, 4, 10, 11, 12, 13, 14, 15, 16, 17, 18, 19, 20, 21, 22, 23, 24, 25, 26, 27, 28, 29, 30, 31, 32, 33, 34, 35, 36, 37, 38, 39, 40, 41, 42, 43, 44, 45, 46, 47, 48, 49, 50, 51, 52, 53, 54, 55, 56, 57, 58, 59, 60, 61, 62, 63, 64, 65, 66, 67, 68, 69, 70, 71, 72, 73, 74, 75, 76, 77, 78, 79, 80, 81, 82, 83, 84, 85, 86, 87, 88, 89, 90, 91, 92, 93, 94, 95, 96, 97, 98, 99, 100, 101, 102, 103, 104, 105, 106, 107, 108, 109, 110, 111, 112, 113, 114, 115, 116, 117, 118, 119, 120, 121, 122, 123, 124, 125, 126, 127, 128, 129, 130, 131, 132, 133, 134, 135, 136, 137, 138, 139, 140, 141, 142, 143, 144, 145, 146, 147, 148, 149, 150, 151, 152, 153, 154, 155, 156, 157, 158, 159, 160, 161, 162, 163, 164, 165, 166, 167, 168, 169, 170, 171, 172, 173, 174, 175, 176, 177, 178, 179, 180, 181, 182, 183, 184, 185, 186, 187, 188, 189, 190, 191, 192, 193, 194, 195, 196, 197, 198, 199, 200, 201, 202, 203, 204, 205, 206, 207, 208, 209, 210, 211, 212, 213, 214] (by decide +kernel) (by decide +kernel)
set_option maxRecDepth 20000 in
theorem gX12_file_X12_hand : GoodIn wsX12_file (wsV RX12 303 RX12 yX12_hand wsX12_hand) := goodIn_app (goodIn_of _ (by decide +kernel)) ggX12_file_X12_hand
theorem dX12_file_0 : decode cX12_file 0 = .ok (.aload_n 0, 1) := by decide +kernel
theorem dX12_file_1 : decode cX12_file 1 = .ok (.bipush 7, 2) := by decide +kernel
theorem dX12_file_3 : decode cX12_file 3 = .ok (.iload_n 1, 1) := by decide +kernel
theorem dX12_file_4 : decode cX12_file 4 = .ok (.iload_n 2, 1) := by decide +kernel
theorem dX12_file_5 : decode cX12_file 5 = .ok (.lconst 0, 1) := by decide +kernel
theorem dX12_file_6 : decode cX12_file 6 = .ok (.invokevirtual 303, 3) := by decide +kernel
theorem dX12_file_9 : decode cX12_file 9 = .ok (.ireturn, 1) := by decide +kernel
set_option maxRecDepth 20000 in
theorem ggX12_shelf_X12_isField : GoodIn wsX12_shelf wsX12_isField := goodIn_r _ [6, 7, 15, 16, 17, 18, 19, 20, 21, 22, 23, 24, 25, 26, 27, 28, 29, 30, 31, 32, 33, 34, 35, 36, 37, 38, 39, 40, 41, 42, 43, 44] (by decide +kernel) (by decide +kernel)
set_option maxRecDepth 20000 in
theorem gX12_shelf_X12_isField : GoodIn wsX12_shelf (wsV RX12 151 RX12 yX12_isField wsX12_isField) := goodIn_app (goodIn_of _ (by decide +kernel)) ggX12_shelf_X12_isField
set_option maxRecDepth 20000 in
theorem ggX12_shelf_X12_in : GoodIn wsX12_shelf wsX12_in := goodIn_r _ [10] (by decide +kernel) (by decide +kernel)
set_option maxRecDepth 20000 in
theorem gX12_shelf_X12_in : GoodIn wsX12_shelf (va_wsS RX12 76 yX12_in wsX12_in) := goodIn_app (goodIn_of _ (by decide +kernel)) ggX12_shelf_X12_in
set_option maxRecDepth 20000 in
theorem ggX12_shelf_X12_shelfAt : GoodIn wsX12_shelf wsX12_shelfAt := goodIn_r _ [14] (by decide +kernel) (by decide +kernel)
set_option maxRecDepth 20000 in
theorem gX12_shelf_X12_shelfAt : GoodIn wsX12_shelf (wsV RX12 246 RX12 yX12_shelfAt wsX12_shelfAt) := goodIn_app (goodIn_of _ (by decide +kernel)) ggX12_shelf_X12_shelfAt
theorem dX12_shelf_0 : decode cX12_shelf 0 = .ok (.aload_n 0, 1) := by decide +kernel
theorem dX12_shelf_1 : decode cX12_shelf 1 = .ok (.invokevirtual 151, 3) := by decide +kernel
theorem dX12_shelf_4 : decode cX12_shelf 4 = .ok (.ifCond .eq 49, 3) := by decide +kernel
theorem dX12_shelf_7 : decode cX12_shelf 7 = .ok (.iload_n 1, 1) := by decide +kernel
theorem dX12_shelf_8 : decode cX12_shelf 8 = .ok (.iconst 0, 1) := by decide +kernel
theorem dX12_shelf_9 : decode cX12_shelf 9 = .ok (.iconst 2, 1) := by decide +kernel
theorem dX12_shelf_10 : decode cX12_shelf 10 = .ok (.invokestatic 76, 3) := by decide +kernel
theorem dX12_shelf_13 : decode cX12_shelf 13 = .ok (.ifCond .eq 40, 3) := by decide +kernel
theorem dX12_shelf_16 : decode cX12_shelf 16 = .ok (.iload_n 2, 1) := by decide +kernel
theorem dX12_shelf_17 : decode cX12_shelf 17 = .ok (.iconst 0, 1) := by decide +kernel
theorem dX12_shelf_18 : decode cX12_shelf 18 = .ok (.aload_n 0, 1) := by decide +kernel
theorem dX12_shelf_19 : decode cX12_shelf 19 = .ok (.getfield 37, 3) := by decide +kernel
theorem dX12_shelf_22 : decode cX12_shelf 22 = .ok (.aload_n 0, 1) := by decide +kernel
theorem dX12_shelf_23 : decode cX12_shelf 23 = .ok (.iload_n 1, 1) := by decide +kernel
theorem dX12_shelf_24 : decode cX12_shelf 24 = .ok (.invokevirtual 246, 3) := by decide +kernel
theorem dX12_shelf_27 : decode cX12_shelf 27 = .ok (.iaload, 1) := by decide +kernel
theorem dX12_shelf_28 : decode cX12_shelf 28 = .ok (.iconst 1, 1) := by decide +kernel
theorem dX12_shelf_29 : decode cX12_shelf 29 = .ok (.isub, 1) := by decide +kernel
theorem dX12_shelf_30 : decode cX12_shelf 30 = .ok (.invokestatic 76, 3) := by decide +kernel
theorem dX12_shelf_33 : decode cX12_shelf 33 = .ok (.ifCond .eq 20, 3) := by decide +kernel
theorem dX12_shelf_36 : decode cX12_shelf 36 = .ok (.aload_n 0, 1) := by decide +kernel
theorem dX12_shelf_37 : decode cX12_shelf 37 = .ok (.getfield 37, 3) := by decide +kernel
theorem dX12_shelf_40 : decode cX12_shelf 40 = .ok (.aload_n 0, 1) := by decide +kernel
theorem dX12_shelf_41 : decode cX12_shelf 41 = .ok (.iload_n 1, 1) := by decide +kernel
theorem dX12_shelf_42 : decode cX12_shelf 42 = .ok (.invokevirtual 246, 3) := by decide +kernel
theorem dX12_shelf_45 : decode cX12_shelf 45 = .ok (.iconst 1, 1) := by decide +kernel
theorem dX12_shelf_46 : decode cX12_shelf 46 = .ok (.iadd, 1) := by decide +kernel
theorem dX12_shelf_47 : decode cX12_shelf 47 = .ok (.iload_n 2, 1) := by decide +kernel
theorem dX12_shelf_48 : decode cX12_shelf 48 = .ok (.iadd, 1) := by decide +kernel
theorem dX12_shelf_49 : decode cX12_shelf 49 = .ok (.iaload, 1) := by decide +kernel
theorem dX12_shelf_50 : decode cX12_shelf 50 = .ok (.goto 4, 3) := by decide +kernel
theorem dX12_shelf_53 : decode cX12_shelf 53 = .ok (.iconst (-1), 1) := by decide +kernel
theorem dX12_shelf_54 : decode cX12_shelf 54 = .ok (.ireturn, 1) := by decide +kernel
set_option maxRecDepth 20000 in
theorem ggX12_tryOne_X12_whyNot : GoodIn wsX12_tryOne wsX12_whyNot := goodIn_r _ [5, 6, 7, 8, 9, 4, 10, 11, 12, 13, 14, 15, 16, 17, 18, 19, 20, 21, 22, 23, 24, 25, 26, 27, 28, 29, 30, 31, 32, 33, 34, 35, 36, 37, 38, 39, 40, 41, 42, 43, 44, 45, 46, 47, 48, 49, 50, 51, 52, 53, 54, 55, 56, 57, 58, 59, 60, 61, 62, 63, 64, 65, 66, 67, 68, 69, 70, 71, 72, 73, 74, 75, 76, 77, 78, 79, 80, 81, 82, 83, 84, 85, 86, 87, 88, 89, 90, 91, 92, 93, 94, 95, 96, 97, 98, 99, 180, 181, 182, 183, 184, 185, 186, 187, 188, 189, 190, 191, 192, 193, 194, 195, 196, 197, 198, 199, 200, 201, 202, 203, 204, 205, 206, 207, 208, 209] (by decide +kernel) (by decide +kernel)
set_option maxRecDepth 20000 in
theorem gX12_tryOne_X12_whyNot : GoodIn wsX12_tryOne (wsV RX12 296 RX12 yX12_whyNot wsX12_whyNot) := goodIn_app (goodIn_of _ (by decide +kernel)) ggX12_tryOne_X12_whyNot
set_option maxRecDepth 20000 in
theorem ggX12_tryOne_X12_act : GoodIn wsX12_tryOne wsX12_act := goodIn_r _ [103, 104, 105, 106, 4, 107, 108, 109, 6, 110, 111, 112, 113, 12, 13, 14, 15, 16, 7, 8, 9, 10, 11, 114, 115, 116, 117, 17, 18, 19, 20, 21, 22, 23, 24, 25, 26, 27, 28, 29, 30, 31, 32, 33, 34, 35, 36, 37, 38, 39, 40, 41, 42, 43, 44, 45, 46, 47, 48, 49, 50, 51, 52, 53, 54, 118, 119, 120, 121, 122, 123, 124, 125, 126, 127, 128, 129, 130, 131, 132, 133, 134, 135, 136, 137, 138, 139, 140, 141, 142, 143, 144, 145, 146, 147, 148, 149, 150, 151, 152, 153, 154, 155, 156, 157, 158, 159, 160, 161, 83, 79, 80, 81, 82, 162, 163, 164, 165, 166, 167, 75, 76, 77, 78, 74, 70, 71, 72, 73, 168, 169, 170, 171, 88, 89, 90, 91, 172, 173, 174, 175, 176, 177, 178, 179, 180, 181, 182, 183, 184, 185, 186, 187, 188, 189, 190, 191, 192, 193, 194, 195, 196, 197, 198, 199, 200, 201, 202, 203, 204, 205, 206, 207, 208, 209] (by decide +kernel) (by decide +kernel)
set_option maxRecDepth 20000 in
theorem gX12_tryOne_X12_act : GoodIn wsX12_tryOne (wsV RX12 300 RX12 yX12_act wsX12_act) := goodIn_app (goodIn_of _ (by decide +kernel)) ggX12_tryOne_X12_act
theorem dX12_tryOne_0 : decode cX12_tryOne 0 = .ok (.aload_n 0, 1) := by decide +kernel
theorem dX12_tryOne_1 : decode cX12_tryOne 1 = .ok (.iload_n 1, 1) := by decide +kernel
theorem dX12_tryOne_2 : decode cX12_tryOne 2 = .ok (.iload_n 2, 1) := by decide +kernel
theorem dX12_tryOne_3 : decode cX12_tryOne 3 = .ok (.iload_n 3, 1) := by decide +kernel
theorem dX12_tryOne_4 : decode cX12_tryOne 4 = .ok (.invokevirtual 296, 3) := by decide +kernel
theorem dX12_tryOne_7 : decode cX12_tryOne 7 = .ok (.iconst (-1), 1) := by decide +kernel
theorem dX12_tryOne_8 : decode cX12_tryOne 8 = .ok (.if_icmp .ne 12, 3) := by decide +kernel
theorem dX12_tryOne_11 : decode cX12_tryOne 11 = .ok (.aload_n 0, 1) := by decide +kernel
theorem dX12_tryOne_12 : decode cX12_tryOne 12 = .ok (.iload_n 1, 1) := by decide +kernel
theorem dX12_tryOne_13 : decode cX12_tryOne 13 = .ok (.iload_n 2, 1) := by decide +kernel
theorem dX12_tryOne_14 : decode cX12_tryOne 14 = .ok (.iload_n 3, 1) := by decide +kernel
theorem dX12_tryOne_15 : decode cX12_tryOne 15 = .ok (.lconst 0, 1) := by decide +kernel
theorem dX12_tryOne_16 : decode cX12_tryOne 16 = .ok (.invokevirtual 300, 3) := by decide +kernel
theorem dX12_tryOne_19 : decode cX12_tryOne 19 = .ok (.pop, 1) := by decide +kernel
theorem dX12_tryOne_20 : decode cX12_tryOne 20 = .ok (.return_, 1) := by decide +kernel
set_option maxRecDepth 20000 in
theorem ggX12_drawYear_X12_draw : GoodIn wsX12_drawYear wsX12_draw := goodIn_r _ [6, 7, 8, 9, 184, 185, 186, 187, 188, 189, 190, 191, 192, 193, 194, 195, 196, 197, 198, 199, 200, 201, 202, 203, 204, 205, 206, 207, 208, 209, 210, 211, 212, 213] (by decide +kernel) (by decide +kernel)
set_option maxRecDepth 20000 in
theorem gX12_drawYear_X12_draw : GoodIn wsX12_drawYear (wsV RX12 259 RX12 yX12_draw wsX12_draw) := goodIn_app (goodIn_of _ (by decide +kernel)) ggX12_drawYear_X12_draw
set_option maxRecDepth 20000 in
theorem ggX12_drawYear_X12_tryOne : GoodIn wsX12_drawYear wsX12_tryOne := goodIn_r _ [13, 14, 15, 16, 5, 17, 18, 19, 20, 21, 22, 1, 23, 24, 25, 26, 27, 28, 29, 30, 31, 32, 33, 34, 35, 36, 37, 38, 39, 40, 41, 42, 43, 44, 45, 46, 47, 48, 49, 50, 51, 52, 53, 54, 55, 56, 57, 58, 59, 60, 61, 62, 63, 64, 65, 66, 67, 68, 69, 70, 71, 72, 73, 74, 75, 76, 77, 78, 79, 80, 81, 82, 83, 84, 85, 86, 87, 88, 89, 90, 91, 92, 93, 94, 95, 96, 97, 98, 99, 100, 101, 102, 103, 104, 105, 106, 107, 108, 109, 110, 111, 112, 113, 114, 115, 116, 117, 118, 119, 120, 121, 122, 123, 124, 125, 126, 127, 128, 129, 130, 131, 132, 133, 134, 135, 136, 137, 138, 139, 140, 141, 142, 143, 144, 145, 146, 147, 148, 149, 150, 151, 152, 153, 154, 155, 156, 157, 158, 159, 160, 161, 162, 163, 7, 164, 165, 166, 167, 168, 169, 170, 171, 2, 3, 4, 6, 8, 9, 172, 173, 174, 175, 176, 177, 178, 179, 180, 181, 182, 183, 184, 185, 186, 187, 188, 189, 190, 191, 192, 193, 194, 195, 196, 197, 198, 199, 200, 201, 202, 203, 204, 205, 206, 207, 208, 209, 210, 211, 212, 213] (by decide +kernel) (by decide +kernel)
set_option maxRecDepth 20000 in
theorem gX12_drawYear_X12_tryOne : GoodIn wsX12_drawYear (wsV RX12 306 RX12 yX12_tryOne wsX12_tryOne) := goodIn_app (goodIn_of _ (by decide +kernel)) ggX12_drawYear_X12_tryOne
set_option maxRecDepth 20000 in
theorem ggX12_drawYear_X12_beginOf : GoodIn wsX12_drawYear wsX12_beginOf := goodIn_r _ [84, 27, 85, 184, 185, 186, 187, 188, 189, 190, 191, 192, 193, 194, 195, 196, 197, 198, 199, 200, 201, 202, 203, 204, 205, 206, 207, 208, 209, 210, 211, 212, 213] (by decide +kernel) (by decide +kernel)
set_option maxRecDepth 20000 in
theorem gX12_drawYear_X12_beginOf : GoodIn wsX12_drawYear (wsV RX12 222 RX12 yX12_beginOf wsX12_beginOf) := goodIn_app (goodIn_of _ (by decide +kernel)) ggX12_drawYear_X12_beginOf
set_option maxRecDepth 20000 in
theorem ggX12_drawYear_X12_widthOf : GoodIn wsX12_drawYear wsX12_widthOf := goodIn_r _ [89, 27, 85, 184, 185, 186, 187, 188, 189, 190, 191, 192, 193, 194, 195, 196, 197, 198, 199, 200, 201, 202, 203, 204, 205, 206, 207, 208, 209, 210, 211, 212, 213] (by decide +kernel) (by decide +kernel)
set_option maxRecDepth 20000 in
theorem gX12_drawYear_X12_widthOf : GoodIn wsX12_drawYear (wsV RX12 225 RX12 yX12_widthOf wsX12_widthOf) := goodIn_app (goodIn_of _ (by decide +kernel)) ggX12_drawYear_X12_widthOf
theorem dX12_drawYear_0 : decode cX12_drawYear 0 = .ok (.aload_n 0, 1) := by decide +kernel
theorem dX12_drawYear_1 : decode cX12_drawYear 1 = .ok (.bipush 8, 2) := by decide +kernel
theorem dX12_drawYear_3 : decode cX12_drawYear 3 = .ok (.invokevirtual 259, 3) := by decide +kernel
theorem dX12_drawYear_6 : decode cX12_drawYear 6 = .ok (.istore_n 1, 1) := by decide +kernel
theorem dX12_drawYear_7 : decode cX12_drawYear 7 = .ok (.iload_n 1, 1) := by decide +kernel
theorem dX12_drawYear_8 : decode cX12_drawYear 8 = .ok (.iconst 2, 1) := by decide +kernel
theorem dX12_drawYear_9 : decode cX12_drawYear 9 = .ok (.if_icmp .ge 13, 3) := by decide +kernel
theorem dX12_drawYear_12 : decode cX12_drawYear 12 = .ok (.aload_n 0, 1) := by decide +kernel
theorem dX12_drawYear_13 : decode cX12_drawYear 13 = .ok (.iconst 0, 1) := by decide +kernel
theorem dX12_drawYear_14 : decode cX12_drawYear 14 = .ok (.iconst 0, 1) := by decide +kernel
theorem dX12_drawYear_15 : decode cX12_drawYear 15 = .ok (.iconst 0, 1) := by decide +kernel
theorem dX12_drawYear_16 : decode cX12_drawYear 16 = .ok (.invokevirtual 306, 3) := by decide +kernel
theorem dX12_drawYear_19 : decode cX12_drawYear 19 = .ok (.goto 100, 3) := by decide +kernel
theorem dX12_drawYear_22 : decode cX12_drawYear 22 = .ok (.iload_n 1, 1) := by decide +kernel
theorem dX12_drawYear_23 : decode cX12_drawYear 23 = .ok (.iconst 2, 1) := by decide +kernel
theorem dX12_drawYear_24 : decode cX12_drawYear 24 = .ok (.if_icmp .ne 13, 3) := by decide +kernel
theorem dX12_drawYear_27 : decode cX12_drawYear 27 = .ok (.aload_n 0, 1) := by decide +kernel
theorem dX12_drawYear_28 : decode cX12_drawYear 28 = .ok (.iconst 1, 1) := by decide +kernel
theorem dX12_drawYear_29 : decode cX12_drawYear 29 = .ok (.iconst 0, 1) := by decide +kernel
theorem dX12_drawYear_30 : decode cX12_drawYear 30 = .ok (.iconst 0, 1) := by decide +kernel
theorem dX12_drawYear_31 : decode cX12_drawYear 31 = .ok (.invokevirtual 306, 3) := by decide +kernel
theorem dX12_drawYear_34 : decode cX12_drawYear 34 = .ok (.goto 85, 3) := by decide +kernel
theorem dX12_drawYear_37 : decode cX12_drawYear 37 = .ok (.iload_n 1, 1) := by decide +kernel
theorem dX12_drawYear_38 : decode cX12_drawYear 38 = .ok (.iconst 5, 1) := by decide +kernel
theorem dX12_drawYear_39 : decode cX12_drawYear 39 = .ok (.if_icmp .ge 29, 3) := by decide +kernel
theorem dX12_drawYear_42 : decode cX12_drawYear 42 = .ok (.aload_n 0, 1) := by decide +kernel
theorem dX12_drawYear_43 : decode cX12_drawYear 43 = .ok (.iload_n 1, 1) := by decide +kernel
theorem dX12_drawYear_44 : decode cX12_drawYear 44 = .ok (.iconst 3, 1) := by decide +kernel
theorem dX12_drawYear_45 : decode cX12_drawYear 45 = .ok (.if_icmp .ne 7, 3) := by decide +kernel
theorem dX12_drawYear_48 : decode cX12_drawYear 48 = .ok (.iconst 2, 1) := by decide +kernel
theorem dX12_drawYear_49 : decode cX12_drawYear 49 = .ok (.goto 4, 3) := by decide +kernel
theorem dX12_drawYear_52 : decode cX12_drawYear 52 = .ok (.iconst 3, 1) := by decide +kernel
theorem dX12_drawYear_53 : decode cX12_drawYear 53 = .ok (.aload_n 0, 1) := by decide +kernel
theorem dX12_drawYear_54 : decode cX12_drawYear 54 = .ok (.aload_n 0, 1) := by decide +kernel
theorem dX12_drawYear_55 : decode cX12_drawYear 55 = .ok (.getfield 148, 3) := by decide +kernel
theorem dX12_drawYear_58 : decode cX12_drawYear 58 = .ok (.invokevirtual 259, 3) := by decide +kernel
theorem dX12_drawYear_61 : decode cX12_drawYear 61 = .ok (.iconst 0, 1) := by decide +kernel
theorem dX12_drawYear_62 : decode cX12_drawYear 62 = .ok (.invokevirtual 306, 3) := by decide +kernel
theorem dX12_drawYear_65 : decode cX12_drawYear 65 = .ok (.goto 54, 3) := by decide +kernel
theorem dX12_drawYear_68 : decode cX12_drawYear 68 = .ok (.iload_n 1, 1) := by decide +kernel
theorem dX12_drawYear_69 : decode cX12_drawYear 69 = .ok (.bipush 7, 2) := by decide +kernel
theorem dX12_drawYear_71 : decode cX12_drawYear 71 = .ok (.if_icmp .ge 36, 3) := by decide +kernel
theorem dX12_drawYear_74 : decode cX12_drawYear 74 = .ok (.aload_n 0, 1) := by decide +kernel
theorem dX12_drawYear_75 : decode cX12_drawYear 75 = .ok (.aload_n 0, 1) := by decide +kernel
theorem dX12_drawYear_76 : decode cX12_drawYear 76 = .ok (.getfield 148, 3) := by decide +kernel
theorem dX12_drawYear_79 : decode cX12_drawYear 79 = .ok (.invokevirtual 259, 3) := by decide +kernel
theorem dX12_drawYear_82 : decode cX12_drawYear 82 = .ok (.istore_n 2, 1) := by decide +kernel
theorem dX12_drawYear_83 : decode cX12_drawYear 83 = .ok (.aload_n 0, 1) := by decide +kernel
theorem dX12_drawYear_84 : decode cX12_drawYear 84 = .ok (.iconst 4, 1) := by decide +kernel
theorem dX12_drawYear_85 : decode cX12_drawYear 85 = .ok (.iload_n 2, 1) := by decide +kernel
theorem dX12_drawYear_86 : decode cX12_drawYear 86 = .ok (.aload_n 0, 1) := by decide +kernel
theorem dX12_drawYear_87 : decode cX12_drawYear 87 = .ok (.iload_n 2, 1) := by decide +kernel
theorem dX12_drawYear_88 : decode cX12_drawYear 88 = .ok (.invokevirtual 222, 3) := by decide +kernel
theorem dX12_drawYear_91 : decode cX12_drawYear 91 = .ok (.aload_n 0, 1) := by decide +kernel
theorem dX12_drawYear_92 : decode cX12_drawYear 92 = .ok (.aload_n 0, 1) := by decide +kernel
theorem dX12_drawYear_93 : decode cX12_drawYear 93 = .ok (.iload_n 2, 1) := by decide +kernel
theorem dX12_drawYear_94 : decode cX12_drawYear 94 = .ok (.invokevirtual 225, 3) := by decide +kernel
theorem dX12_drawYear_97 : decode cX12_drawYear 97 = .ok (.invokevirtual 259, 3) := by decide +kernel
theorem dX12_drawYear_100 : decode cX12_drawYear 100 = .ok (.iadd, 1) := by decide +kernel
theorem dX12_drawYear_101 : decode cX12_drawYear 101 = .ok (.invokevirtual 306, 3) := by decide +kernel
theorem dX12_drawYear_104 : decode cX12_drawYear 104 = .ok (.goto 15, 3) := by decide +kernel
theorem dX12_drawYear_107 : decode cX12_drawYear 107 = .ok (.aload_n 0, 1) := by decide +kernel
theorem dX12_drawYear_108 : decode cX12_drawYear 108 = .ok (.iconst 5, 1) := by decide +kernel
theorem dX12_drawYear_109 : decode cX12_drawYear 109 = .ok (.aload_n 0, 1) := by decide +kernel
theorem dX12_drawYear_110 : decode cX12_drawYear 110 = .ok (.bipush 30, 2) := by decide +kernel
theorem dX12_drawYear_112 : decode cX12_drawYear 112 = .ok (.invokevirtual 259, 3) := by decide +kernel
theorem dX12_drawYear_115 : decode cX12_drawYear 115 = .ok (.iconst 0, 1) := by decide +kernel
theorem dX12_drawYear_116 : decode cX12_drawYear 116 = .ok (.invokevirtual 306, 3) := by decide +kernel
theorem dX12_drawYear_119 : decode cX12_drawYear 119 = .ok (.return_, 1) := by decide +kernel
set_option maxRecDepth 20000 in
theorem ggX12_years_X12_isField : GoodIn wsX12_years wsX12_isField := goodIn_r _ [6, 7, 188, 189, 190, 191, 192, 193, 194, 195, 196, 197, 198, 199, 200, 201, 202, 203, 204, 205, 206, 207, 208, 209, 210, 211, 212, 213, 214, 215, 216, 217] (by decide +kernel) (by decide +kernel)
set_option maxRecDepth 20000 in
theorem gX12_years_X12_isField : GoodIn wsX12_years (wsV RX12 151 RX12 yX12_isField wsX12_isField) := goodIn_app (goodIn_of _ (by decide +kernel)) ggX12_years_X12_isField
set_option maxRecDepth 20000 in
theorem ggX12_years_X12_in : GoodIn wsX12_years wsX12_in := goodIn_r _ [10] (by decide +kernel) (by decide +kernel)
set_option maxRecDepth 20000 in
theorem gX12_years_X12_in : GoodIn wsX12_years (va_wsS RX12 76 yX12_in wsX12_in) := goodIn_app (goodIn_of _ (by decide +kernel)) ggX12_years_X12_in
set_option maxRecDepth 20000 in
theorem ggX12_years_X12_drawYear : GoodIn wsX12_years wsX12_drawYear := goodIn_r _ [14, 7, 15, 16, 17, 5, 18, 1, 19, 20, 21, 22, 23, 24, 25, 26, 27, 28, 29, 2, 3, 4, 6, 30, 31, 32, 33, 34, 35, 36, 37, 38, 39, 40, 41, 42, 43, 44, 45, 46, 47, 48, 49, 50, 51, 52, 53, 54, 55, 56, 57, 58, 59, 60, 61, 62, 63, 64, 65, 66, 67, 68, 69, 70, 71, 72, 73, 74, 75, 76, 8, 9, 10, 77, 78, 79, 80, 81, 82, 83, 84, 85, 86, 87, 88, 89, 90, 91, 92, 93, 94, 95, 96, 97, 98, 99, 100, 101, 102, 103, 104, 105, 106, 107, 108, 109, 110, 111, 112, 113, 114, 115, 116, 117, 118, 119, 120, 121, 122, 123, 124, 125, 126, 127, 128, 129, 130, 131, 132, 133, 134, 135, 136, 137, 138, 139, 140, 141, 142, 143, 144, 145, 146, 147, 148, 149, 150, 151, 152, 153, 154, 155, 156, 157, 158, 159, 160, 161, 162, 163, 164, 165, 166, 167, 168, 169, 170, 171, 172, 173, 174, 175, 176, 177, 178, 179, 180, 181, 182, 183, 184, 185, 186, 187, 188, 189, 190, 191, 192, 193, 194, 195, 196, 197, 198, 199, 200, 201, 202, 203, 204, 205, 206, 207, 208, 209, 210, 211, 212, 213, 214, 215, 216, 217] (by decide +kernel) (by decide +kernel)
set_option maxRecDepth 20000 in
theorem gX12_years_X12_drawYear : GoodIn wsX12_years (wsV RX12 310 RX12 yX12_drawYear wsX12_drawYear) := goodIn_app (goodIn_of _ (by decide +kernel)) ggX12_years_X12_drawYear
set_option maxRecDepth 20000 in
theorem ggX12_years_X12_knownMany : GoodIn wsX12_years wsX12_knownMany := goodIn_r _ [148, 149, 150, 151, 5, 152, 7, 49, 50, 51, 52, 29, 153, 154, 155, 188, 189, 190, 191, 192, 193, 194, 195, 196, 197, 198, 199, 200, 201, 202, 203, 204, 205, 206, 207, 208, 209, 210, 211, 212, 213, 214, 215, 216, 217] (by decide +kernel) (by decide +kernel)
set_option maxRecDepth 20000 in
theorem gX12_years_X12_knownMany : GoodIn wsX12_years (wsV RX12 219 RX12 yX12_knownMany wsX12_knownMany) := goodIn_app (goodIn_of _ (by decide +kernel)) ggX12_years_X12_knownMany
theorem dX12_years_0 : decode cX12_years 0 = .ok (.aload_n 0, 1) := by decide +kernel
theorem dX12_years_1 : decode cX12_years 1 = .ok (.invokevirtual 151, 3) := by decide +kernel
theorem dX12_years_4 : decode cX12_years 4 = .ok (.ifCond .eq 13, 3) := by decide +kernel
theorem dX12_years_7 : decode cX12_years 7 = .ok (.iload_n 1, 1) := by decide +kernel
theorem dX12_years_8 : decode cX12_years 8 = .ok (.iconst 1, 1) := by decide +kernel
theorem dX12_years_9 : decode cX12_years 9 = .ok (.bipush 40, 2) := by decide +kernel
theorem dX12_years_11 : decode cX12_years 11 = .ok (.invokestatic 76, 3) := by decide +kernel
theorem dX12_years_14 : decode cX12_years 14 = .ok (.ifCond .ne 5, 3) := by decide +kernel
theorem dX12_years_17 : decode cX12_years 17 = .ok (.iconst (-1), 1) := by decide +kernel
theorem dX12_years_18 : decode cX12_years 18 = .ok (.ireturn, 1) := by decide +kernel
theorem dX12_years_19 : decode cX12_years 19 = .ok (.aload_n 0, 1) := by decide +kernel
theorem dX12_years_20 : decode cX12_years 20 = .ok (.lload_n 2, 1) := by decide +kernel
theorem dX12_years_21 : decode cX12_years 21 = .ok (.putfield 252, 3) := by decide +kernel
theorem dX12_years_24 : decode cX12_years 24 = .ok (.iconst 0, 1) := by decide +kernel
theorem dX12_years_25 : decode cX12_years 25 = .ok (.istore 4, 2) := by decide +kernel
theorem dX12_years_27 : decode cX12_years 27 = .ok (.iload 4, 2) := by decide +kernel
theorem dX12_years_29 : decode cX12_years 29 = .ok (.iload_n 1, 1) := by decide +kernel
theorem dX12_years_30 : decode cX12_years 30 = .ok (.if_icmp .ge 13, 3) := by decide +kernel
theorem dX12_years_33 : decode cX12_years 33 = .ok (.aload_n 0, 1) := by decide +kernel
theorem dX12_years_34 : decode cX12_years 34 = .ok (.invokevirtual 310, 3) := by decide +kernel
theorem dX12_years_37 : decode cX12_years 37 = .ok (.iinc 4 1, 3) := by decide +kernel
theorem dX12_years_40 : decode cX12_years 40 = .ok (.goto (-13), 3) := by decide +kernel
theorem dX12_years_43 : decode cX12_years 43 = .ok (.aload_n 0, 1) := by decide +kernel
theorem dX12_years_44 : decode cX12_years 44 = .ok (.invokevirtual 219, 3) := by decide +kernel
theorem dX12_years_47 : decode cX12_years 47 = .ok (.ireturn, 1) := by decide +kernel
set_option maxRecDepth 20000 in
theorem ggX12_status_X12_in : GoodIn wsX12_status wsX12_in := goodIn_r _ [5] (by decide +kernel) (by decide +kernel)
set_option maxRecDepth 20000 in
theorem gX12_status_X12_in : GoodIn wsX12_status (va_wsS RX12 76 yX12_in wsX12_in) := goodIn_app (goodIn_of _ (by decide +kernel)) ggX12_status_X12_in
theorem dX12_status_0 : decode cX12_status 0 = .ok (.iload_n 1, 1) := by decide +kernel
theorem dX12_status_1 : decode cX12_status 1 = .ok (.iconst 0, 1) := by decide +kernel
theorem dX12_status_2 : decode cX12_status 2 = .ok (.iconst 3, 1) := by decide +kernel
theorem dX12_status_3 : decode cX12_status 3 = .ok (.invokestatic 76, 3) := by decide +kernel
theorem dX12_status_6 : decode cX12_status 6 = .ok (.ifCond .eq 12, 3) := by decide +kernel
theorem dX12_status_9 : decode cX12_status 9 = .ok (.aload_n 0, 1) := by decide +kernel
theorem dX12_status_10 : decode cX12_status 10 = .ok (.getfield 40, 3) := by decide +kernel
theorem dX12_status_13 : decode cX12_status 13 = .ok (.iload_n 1, 1) := by decide +kernel
theorem dX12_status_14 : decode cX12_status 14 = .ok (.iaload, 1) := by decide +kernel
theorem dX12_status_15 : decode cX12_status 15 = .ok (.goto 4, 3) := by decide +kernel
theorem dX12_status_18 : decode cX12_status 18 = .ok (.iconst (-1), 1) := by decide +kernel
theorem dX12_status_19 : decode cX12_status 19 = .ok (.ireturn, 1) := by decide +kernel
theorem dX12_undo_0 : decode cX12_undo 0 = .ok (.aload_n 0, 1) := by decide +kernel
theorem dX12_undo_1 : decode cX12_undo 1 = .ok (.getfield 165, 3) := by decide +kernel
theorem dX12_undo_4 : decode cX12_undo 4 = .ok (.ifCond .ne 5, 3) := by decide +kernel
theorem dX12_undo_7 : decode cX12_undo 7 = .ok (.iconst (-1), 1) := by decide +kernel
theorem dX12_undo_8 : decode cX12_undo 8 = .ok (.ireturn, 1) := by decide +kernel
theorem dX12_undo_9 : decode cX12_undo 9 = .ok (.aload_n 0, 1) := by decide +kernel
theorem dX12_undo_10 : decode cX12_undo 10 = .ok (.dup, 1) := by decide +kernel
theorem dX12_undo_11 : decode cX12_undo 11 = .ok (.getfield 165, 3) := by decide +kernel
theorem dX12_undo_14 : decode cX12_undo 14 = .ok (.iconst 1, 1) := by decide +kernel
theorem dX12_undo_15 : decode cX12_undo 15 = .ok (.isub, 1) := by decide +kernel
theorem dX12_undo_16 : decode cX12_undo 16 = .ok (.putfield 165, 3) := by decide +kernel
theorem dX12_undo_19 : decode cX12_undo 19 = .ok (.iconst 0, 1) := by decide +kernel
theorem dX12_undo_20 : decode cX12_undo 20 = .ok (.istore_n 1, 1) := by decide +kernel
theorem dX12_undo_21 : decode cX12_undo 21 = .ok (.iload_n 1, 1) := by decide +kernel
theorem dX12_undo_22 : decode cX12_undo 22 = .ok (.sipush 245, 3) := by decide +kernel
theorem dX12_undo_25 : decode cX12_undo 25 = .ok (.if_icmp .ge 30, 3) := by decide +kernel
theorem dX12_undo_28 : decode cX12_undo 28 = .ok (.aload_n 0, 1) := by decide +kernel
theorem dX12_undo_29 : decode cX12_undo 29 = .ok (.getfield 37, 3) := by decide +kernel
theorem dX12_undo_32 : decode cX12_undo 32 = .ok (.iload_n 1, 1) := by decide +kernel
theorem dX12_undo_33 : decode cX12_undo 33 = .ok (.aload_n 0, 1) := by decide +kernel
theorem dX12_undo_34 : decode cX12_undo 34 = .ok (.getfield 50, 3) := by decide +kernel
theorem dX12_undo_37 : decode cX12_undo 37 = .ok (.sipush 245, 3) := by decide +kernel
theorem dX12_undo_40 : decode cX12_undo 40 = .ok (.aload_n 0, 1) := by decide +kernel
theorem dX12_undo_41 : decode cX12_undo 41 = .ok (.getfield 165, 3) := by decide +kernel
theorem dX12_undo_44 : decode cX12_undo 44 = .ok (.imul, 1) := by decide +kernel
theorem dX12_undo_45 : decode cX12_undo 45 = .ok (.iload_n 1, 1) := by decide +kernel
theorem dX12_undo_46 : decode cX12_undo 46 = .ok (.iadd, 1) := by decide +kernel
theorem dX12_undo_47 : decode cX12_undo 47 = .ok (.iaload, 1) := by decide +kernel
theorem dX12_undo_48 : decode cX12_undo 48 = .ok (.iastore, 1) := by decide +kernel
theorem dX12_undo_49 : decode cX12_undo 49 = .ok (.iinc 1 1, 3) := by decide +kernel
theorem dX12_undo_52 : decode cX12_undo 52 = .ok (.goto (-31), 3) := by decide +kernel
theorem dX12_undo_55 : decode cX12_undo 55 = .ok (.aload_n 0, 1) := by decide +kernel
theorem dX12_undo_56 : decode cX12_undo 56 = .ok (.getfield 165, 3) := by decide +kernel
theorem dX12_undo_59 : decode cX12_undo 59 = .ok (.ireturn, 1) := by decide +kernel
set_option maxRecDepth 20000 in
theorem ggX12_log_X12_in : GoodIn wsX12_log wsX12_in := goodIn_r _ [6] (by decide +kernel) (by decide +kernel)
set_option maxRecDepth 20000 in
theorem gX12_log_X12_in : GoodIn wsX12_log (va_wsS RX12 76 yX12_in wsX12_in) := goodIn_app (goodIn_of _ (by decide +kernel)) ggX12_log_X12_in
theorem dX12_log_0 : decode cX12_log 0 = .ok (.iload_n 1, 1) := by decide +kernel
theorem dX12_log_1 : decode cX12_log 1 = .ok (.iconst 0, 1) := by decide +kernel
theorem dX12_log_2 : decode cX12_log 2 = .ok (.aload_n 0, 1) := by decide +kernel
theorem dX12_log_3 : decode cX12_log 3 = .ok (.getfield 37, 3) := by decide +kernel
theorem dX12_log_6 : decode cX12_log 6 = .ok (.bipush 64, 2) := by decide +kernel
theorem dX12_log_8 : decode cX12_log 8 = .ok (.iaload, 1) := by decide +kernel
theorem dX12_log_9 : decode cX12_log 9 = .ok (.iconst 1, 1) := by decide +kernel
theorem dX12_log_10 : decode cX12_log 10 = .ok (.isub, 1) := by decide +kernel
theorem dX12_log_11 : decode cX12_log 11 = .ok (.invokestatic 76, 3) := by decide +kernel
theorem dX12_log_14 : decode cX12_log 14 = .ok (.ifCond .eq 38, 3) := by decide +kernel
theorem dX12_log_17 : decode cX12_log 17 = .ok (.iload_n 2, 1) := by decide +kernel
theorem dX12_log_18 : decode cX12_log 18 = .ok (.iconst 0, 1) := by decide +kernel
theorem dX12_log_19 : decode cX12_log 19 = .ok (.iconst 2, 1) := by decide +kernel
theorem dX12_log_20 : decode cX12_log 20 = .ok (.invokestatic 76, 3) := by decide +kernel
theorem dX12_log_23 : decode cX12_log 23 = .ok (.ifCond .eq 29, 3) := by decide +kernel
theorem dX12_log_26 : decode cX12_log 26 = .ok (.aload_n 0, 1) := by decide +kernel
theorem dX12_log_27 : decode cX12_log 27 = .ok (.getfield 37, 3) := by decide +kernel
theorem dX12_log_30 : decode cX12_log 30 = .ok (.bipush 65, 2) := by decide +kernel
theorem dX12_log_32 : decode cX12_log 32 = .ok (.iconst 3, 1) := by decide +kernel
theorem dX12_log_33 : decode cX12_log 33 = .ok (.aload_n 0, 1) := by decide +kernel
theorem dX12_log_34 : decode cX12_log 34 = .ok (.getfield 37, 3) := by decide +kernel
theorem dX12_log_37 : decode cX12_log 37 = .ok (.bipush 64, 2) := by decide +kernel
theorem dX12_log_39 : decode cX12_log 39 = .ok (.iaload, 1) := by decide +kernel
theorem dX12_log_40 : decode cX12_log 40 = .ok (.iconst 1, 1) := by decide +kernel
theorem dX12_log_41 : decode cX12_log 41 = .ok (.isub, 1) := by decide +kernel
theorem dX12_log_42 : decode cX12_log 42 = .ok (.iload_n 1, 1) := by decide +kernel
theorem dX12_log_43 : decode cX12_log 43 = .ok (.isub, 1) := by decide +kernel
theorem dX12_log_44 : decode cX12_log 44 = .ok (.imul, 1) := by decide +kernel
theorem dX12_log_45 : decode cX12_log 45 = .ok (.iadd, 1) := by decide +kernel
theorem dX12_log_46 : decode cX12_log 46 = .ok (.iload_n 2, 1) := by decide +kernel
theorem dX12_log_47 : decode cX12_log 47 = .ok (.iadd, 1) := by decide +kernel
theorem dX12_log_48 : decode cX12_log 48 = .ok (.iaload, 1) := by decide +kernel
theorem dX12_log_49 : decode cX12_log 49 = .ok (.goto 6, 3) := by decide +kernel
theorem dX12_log_52 : decode cX12_log 52 = .ok (.ldc_w 313, 3) := by decide +kernel
theorem dX12_log_55 : decode cX12_log 55 = .ok (.ireturn, 1) := by decide +kernel
set_option maxRecDepth 20000 in
theorem ggX12_rule_X12_isField : GoodIn wsX12_rule wsX12_isField := goodIn_r _ [7, 8, 16, 17, 18, 19, 20, 21, 22, 23, 24, 25, 26, 27, 28, 29, 30, 31, 32, 33, 34, 35, 36, 37, 38, 39, 40, 41, 42, 43, 44, 45] (by decide +kernel) (by decide +kernel)
set_option maxRecDepth 20000 in
theorem gX12_rule_X12_isField : GoodIn wsX12_rule (wsV RX12 151 RX12 yX12_isField wsX12_isField) := goodIn_app (goodIn_of _ (by decide +kernel)) ggX12_rule_X12_isField
set_option maxRecDepth 20000 in
theorem ggX12_rule_X12_in : GoodIn wsX12_rule wsX12_in := goodIn_r _ [11] (by decide +kernel) (by decide +kernel)
set_option maxRecDepth 20000 in
theorem gX12_rule_X12_in : GoodIn wsX12_rule (va_wsS RX12 76 yX12_in wsX12_in) := goodIn_app (goodIn_of _ (by decide +kernel)) ggX12_rule_X12_in
set_option maxRecDepth 20000 in
theorem ggX12_rule_X12_slotMany : GoodIn wsX12_rule wsX12_slotMany := goodIn_r _ [15, 2, 3, 4, 5, 6, 7, 8, 16, 17, 18, 19, 20, 21, 22, 23, 24, 25, 26, 27, 28, 29, 30, 31, 32, 33, 34, 35, 36, 37, 38, 39, 40, 41, 42, 43, 44, 45] (by decide +kernel) (by decide +kernel)
set_option maxRecDepth 20000 in
theorem gX12_rule_X12_slotMany : GoodIn wsX12_rule (wsV RX12 154 RX12 yX12_slotMany wsX12_slotMany) := goodIn_app (goodIn_of _ (by decide +kernel)) ggX12_rule_X12_slotMany
theorem dX12_rule_0 : decode cX12_rule 0 = .ok (.aload_n 0, 1) := by decide +kernel
theorem dX12_rule_1 : decode cX12_rule 1 = .ok (.invokevirtual 151, 3) := by decide +kernel
theorem dX12_rule_4 : decode cX12_rule 4 = .ok (.ifCond .eq 12, 3) := by decide +kernel
theorem dX12_rule_7 : decode cX12_rule 7 = .ok (.iload_n 1, 1) := by decide +kernel
theorem dX12_rule_8 : decode cX12_rule 8 = .ok (.iconst 0, 1) := by decide +kernel
theorem dX12_rule_9 : decode cX12_rule 9 = .ok (.iconst 4, 1) := by decide +kernel
theorem dX12_rule_10 : decode cX12_rule 10 = .ok (.invokestatic 76, 3) := by decide +kernel
theorem dX12_rule_13 : decode cX12_rule 13 = .ok (.ifCond .ne 5, 3) := by decide +kernel
theorem dX12_rule_16 : decode cX12_rule 16 = .ok (.iconst (-1), 1) := by decide +kernel
theorem dX12_rule_17 : decode cX12_rule 17 = .ok (.ireturn, 1) := by decide +kernel
theorem dX12_rule_18 : decode cX12_rule 18 = .ok (.iload_n 1, 1) := by decide +kernel
theorem dX12_rule_19 : decode cX12_rule 19 = .ok (.iconst 4, 1) := by decide +kernel
theorem dX12_rule_20 : decode cX12_rule 20 = .ok (.if_icmp .ne 10, 3) := by decide +kernel
theorem dX12_rule_23 : decode cX12_rule 23 = .ok (.aload_n 0, 1) := by decide +kernel
theorem dX12_rule_24 : decode cX12_rule 24 = .ok (.invokevirtual 154, 3) := by decide +kernel
theorem dX12_rule_27 : decode cX12_rule 27 = .ok (.goto 24, 3) := by decide +kernel
theorem dX12_rule_30 : decode cX12_rule 30 = .ok (.iload_n 1, 1) := by decide +kernel
theorem dX12_rule_31 : decode cX12_rule 31 = .ok (.iconst 2, 1) := by decide +kernel
theorem dX12_rule_32 : decode cX12_rule 32 = .ok (.if_icmp .ne 13, 3) := by decide +kernel
theorem dX12_rule_35 : decode cX12_rule 35 = .ok (.aload_n 0, 1) := by decide +kernel
theorem dX12_rule_36 : decode cX12_rule 36 = .ok (.getfield 37, 3) := by decide +kernel
theorem dX12_rule_39 : decode cX12_rule 39 = .ok (.bipush 30, 2) := by decide +kernel
theorem dX12_rule_41 : decode cX12_rule 41 = .ok (.iaload, 1) := by decide +kernel
theorem dX12_rule_42 : decode cX12_rule 42 = .ok (.goto 9, 3) := by decide +kernel
theorem dX12_rule_45 : decode cX12_rule 45 = .ok (.aload_n 0, 1) := by decide +kernel
theorem dX12_rule_46 : decode cX12_rule 46 = .ok (.getfield 22, 3) := by decide +kernel
theorem dX12_rule_49 : decode cX12_rule 49 = .ok (.iload_n 1, 1) := by decide +kernel
theorem dX12_rule_50 : decode cX12_rule 50 = .ok (.iaload, 1) := by decide +kernel
theorem dX12_rule_51 : decode cX12_rule 51 = .ok (.ireturn, 1) := by decide +kernel
set_option maxRecDepth 20000 in
theorem ggX12_weight_X12_isField : GoodIn wsX12_weight wsX12_isField := goodIn_r _ [6, 7, 11, 12, 13, 14, 15, 16, 17, 18, 19, 20, 21, 22, 23, 24, 25, 26, 27, 28, 29, 30, 31, 32, 33, 34, 35, 36, 37, 38, 39, 40] (by decide +kernel) (by decide +kernel)
set_option maxRecDepth 20000 in
theorem gX12_weight_X12_isField : GoodIn wsX12_weight (wsV RX12 151 RX12 yX12_isField wsX12_isField) := goodIn_app (goodIn_of _ (by decide +kernel)) ggX12_weight_X12_isField
set_option maxRecDepth 20000 in
theorem ggX12_weight_X12_in : GoodIn wsX12_weight wsX12_in := goodIn_r _ [10] (by decide +kernel) (by decide +kernel)
set_option maxRecDepth 20000 in
theorem gX12_weight_X12_in : GoodIn wsX12_weight (va_wsS RX12 76 yX12_in wsX12_in) := goodIn_app (goodIn_of _ (by decide +kernel)) ggX12_weight_X12_in
theorem dX12_weight_0 : decode cX12_weight 0 = .ok (.aload_n 0, 1) := by decide +kernel
theorem dX12_weight_1 : decode cX12_weight 1 = .ok (.invokevirtual 151, 3) := by decide +kernel
theorem dX12_weight_4 : decode cX12_weight 4 = .ok (.ifCond .eq 22, 3) := by decide +kernel
theorem dX12_weight_7 : decode cX12_weight 7 = .ok (.iload_n 1, 1) := by decide +kernel
theorem dX12_weight_8 : decode cX12_weight 8 = .ok (.iconst 1, 1) := by decide +kernel
theorem dX12_weight_9 : decode cX12_weight 9 = .ok (.bipush 6, 2) := by decide +kernel
theorem dX12_weight_11 : decode cX12_weight 11 = .ok (.invokestatic 76, 3) := by decide +kernel
theorem dX12_weight_14 : decode cX12_weight 14 = .ok (.ifCond .eq 12, 3) := by decide +kernel
theorem dX12_weight_17 : decode cX12_weight 17 = .ok (.aload_n 0, 1) := by decide +kernel
theorem dX12_weight_18 : decode cX12_weight 18 = .ok (.getfield 28, 3) := by decide +kernel
theorem dX12_weight_21 : decode cX12_weight 21 = .ok (.iload_n 1, 1) := by decide +kernel
theorem dX12_weight_22 : decode cX12_weight 22 = .ok (.iaload, 1) := by decide +kernel
theorem dX12_weight_23 : decode cX12_weight 23 = .ok (.goto 4, 3) := by decide +kernel
theorem dX12_weight_26 : decode cX12_weight 26 = .ok (.iconst (-1), 1) := by decide +kernel
theorem dX12_weight_27 : decode cX12_weight 27 = .ok (.ireturn, 1) := by decide +kernel
set_option maxRecDepth 20000 in
theorem ggX12_user_X12_isUser : GoodIn wsX12_user wsX12_isUser := goodIn_r _ [8, 9, 10, 11, 7, 12, 85, 86, 87, 88, 89, 90, 91, 92, 93, 94, 95, 96, 97, 98, 99, 100, 101, 102, 103, 104, 105, 106, 107, 108, 109, 110, 111, 112, 113, 114] (by decide +kernel) (by decide +kernel)
set_option maxRecDepth 20000 in
theorem gX12_user_X12_isUser : GoodIn wsX12_user (wsV RX12 228 RX12 yX12_isUser wsX12_isUser) := goodIn_app (goodIn_of _ (by decide +kernel)) ggX12_user_X12_isUser
set_option maxRecDepth 20000 in
theorem ggX12_user_X12_in : GoodIn wsX12_user wsX12_in := goodIn_r _ [12] (by decide +kernel) (by decide +kernel)
set_option maxRecDepth 20000 in
theorem gX12_user_X12_in : GoodIn wsX12_user (va_wsS RX12 76 yX12_in wsX12_in) := goodIn_app (goodIn_of _ (by decide +kernel)) ggX12_user_X12_in
set_option maxRecDepth 20000 in
theorem ggX12_user_X12_copyMany : GoodIn wsX12_user wsX12_copyMany := goodIn_r _ [16, 2, 17, 18, 7, 19, 85, 86, 87, 88, 89, 90, 91, 92, 93, 94, 95, 96, 97, 98, 99, 100, 101, 102, 103, 104, 105, 106, 107, 108, 109, 110, 111, 112, 113, 114] (by decide +kernel) (by decide +kernel)
set_option maxRecDepth 20000 in
theorem gX12_user_X12_copyMany : GoodIn wsX12_user (wsV RX12 270 RX12 yX12_copyMany wsX12_copyMany) := goodIn_app (goodIn_of _ (by decide +kernel)) ggX12_user_X12_copyMany
set_option maxRecDepth 20000 in
theorem ggX12_user_X12_hasteOf : GoodIn wsX12_user wsX12_hasteOf := goodIn_r _ [23, 24, 25, 26, 7, 27, 28, 2, 29, 30, 31, 32, 33, 34, 35, 36, 9, 37, 38, 39, 40, 41, 42, 43, 44, 45, 46, 47, 48, 49, 50, 51, 52, 53, 54, 55, 56, 57, 58, 59, 60, 61, 62, 63, 64, 65, 66, 67, 68, 69, 70, 71, 72, 73, 74, 75, 76, 77, 78, 79, 80, 81, 82, 83, 84, 85, 86, 87, 88, 89, 90, 91, 92, 93, 94, 95, 96, 97, 98, 99, 100, 101, 102, 103, 104, 105, 106, 107, 108, 109, 110, 111, 112, 113, 114] (by decide +kernel) (by decide +kernel)
set_option maxRecDepth 20000 in
theorem gX12_user_X12_hasteOf : GoodIn wsX12_user (wsV RX12 314 RX12 yX12_hasteOf wsX12_hasteOf) := goodIn_app (goodIn_of _ (by decide +kernel)) ggX12_user_X12_hasteOf
theorem dX12_user_0 : decode cX12_user 0 = .ok (.aload_n 0, 1) := by decide +kernel
theorem dX12_user_1 : decode cX12_user 1 = .ok (.aload_n 0, 1) := by decide +kernel
theorem dX12_user_2 : decode cX12_user 2 = .ok (.iload_n 1, 1) := by decide +kernel
theorem dX12_user_3 : decode cX12_user 3 = .ok (.invokevirtual 228, 3) := by decide +kernel
theorem dX12_user_6 : decode cX12_user 6 = .ok (.ifCond .eq 16, 3) := by decide +kernel
theorem dX12_user_9 : decode cX12_user 9 = .ok (.iload_n 2, 1) := by decide +kernel
theorem dX12_user_10 : decode cX12_user 10 = .ok (.iconst 0, 1) := by decide +kernel
theorem dX12_user_11 : decode cX12_user 11 = .ok (.iconst 5, 1) := by decide +kernel
theorem dX12_user_12 : decode cX12_user 12 = .ok (.invokestatic 76, 3) := by decide +kernel
theorem dX12_user_15 : decode cX12_user 15 = .ok (.ifCond .eq 7, 3) := by decide +kernel
theorem dX12_user_18 : decode cX12_user 18 = .ok (.iconst 0, 1) := by decide +kernel
theorem dX12_user_19 : decode cX12_user 19 = .ok (.goto 4, 3) := by decide +kernel
theorem dX12_user_22 : decode cX12_user 22 = .ok (.iconst 1, 1) := by decide +kernel
theorem dX12_user_23 : decode cX12_user 23 = .ok (.putfield 65, 3) := by decide +kernel
theorem dX12_user_26 : decode cX12_user 26 = .ok (.aload_n 0, 1) := by decide +kernel
theorem dX12_user_27 : decode cX12_user 27 = .ok (.getfield 65, 3) := by decide +kernel
theorem dX12_user_30 : decode cX12_user 30 = .ok (.iconst 1, 1) := by decide +kernel
theorem dX12_user_31 : decode cX12_user 31 = .ok (.if_icmp .ne 5, 3) := by decide +kernel
theorem dX12_user_34 : decode cX12_user 34 = .ok (.iconst 0, 1) := by decide +kernel
theorem dX12_user_35 : decode cX12_user 35 = .ok (.ireturn, 1) := by decide +kernel
theorem dX12_user_36 : decode cX12_user 36 = .ok (.iload_n 2, 1) := by decide +kernel
theorem dX12_user_37 : decode cX12_user 37 = .ok (.tableswitch 48 3 5 #[27, 33, 42], 27) := by decide +kernel
theorem dX12_user_64 : decode cX12_user 64 = .ok (.aload_n 0, 1) := by decide +kernel
theorem dX12_user_65 : decode cX12_user 65 = .ok (.iload_n 1, 1) := by decide +kernel
theorem dX12_user_66 : decode cX12_user 66 = .ok (.invokevirtual 270, 3) := by decide +kernel
theorem dX12_user_69 : decode cX12_user 69 = .ok (.ireturn, 1) := by decide +kernel
theorem dX12_user_70 : decode cX12_user 70 = .ok (.aload_n 0, 1) := by decide +kernel
theorem dX12_user_71 : decode cX12_user 71 = .ok (.getfield 37, 3) := by decide +kernel
theorem dX12_user_74 : decode cX12_user 74 = .ok (.iconst 0, 1) := by decide +kernel
theorem dX12_user_75 : decode cX12_user 75 = .ok (.iload_n 1, 1) := by decide +kernel
theorem dX12_user_76 : decode cX12_user 76 = .ok (.iadd, 1) := by decide +kernel
theorem dX12_user_77 : decode cX12_user 77 = .ok (.iaload, 1) := by decide +kernel
theorem dX12_user_78 : decode cX12_user 78 = .ok (.ireturn, 1) := by decide +kernel
theorem dX12_user_79 : decode cX12_user 79 = .ok (.aload_n 0, 1) := by decide +kernel
theorem dX12_user_80 : decode cX12_user 80 = .ok (.iload_n 1, 1) := by decide +kernel
theorem dX12_user_81 : decode cX12_user 81 = .ok (.invokevirtual 314, 3) := by decide +kernel
theorem dX12_user_84 : decode cX12_user 84 = .ok (.ireturn, 1) := by decide +kernel
theorem dX12_user_85 : decode cX12_user 85 = .ok (.aload_n 0, 1) := by decide +kernel
theorem dX12_user_86 : decode cX12_user 86 = .ok (.getfield 25, 3) := by decide +kernel
theorem dX12_user_89 : decode cX12_user 89 = .ok (.iconst 5, 1) := by decide +kernel
theorem dX12_user_90 : decode cX12_user 90 = .ok (.iload_n 1, 1) := by decide +kernel
theorem dX12_user_91 : decode cX12_user 91 = .ok (.imul, 1) := by decide +kernel
theorem dX12_user_92 : decode cX12_user 92 = .ok (.iload_n 2, 1) := by decide +kernel
theorem dX12_user_93 : decode cX12_user 93 = .ok (.iadd, 1) := by decide +kernel
theorem dX12_user_94 : decode cX12_user 94 = .ok (.iaload, 1) := by decide +kernel
theorem dX12_user_95 : decode cX12_user 95 = .ok (.ireturn, 1) := by decide +kernel
set_option maxRecDepth 20000 in
theorem ggX12_copies_X12_isUser : GoodIn wsX12_copies wsX12_isUser := goodIn_r _ [6, 7, 8, 9, 5, 10, 11, 12, 13, 14, 15, 16, 17, 18, 19, 20, 21, 22, 23, 24, 25, 26, 27, 28, 29, 30, 31, 32, 33, 34, 35, 36, 37, 38, 39, 40] (by decide +kernel) (by decide +kernel)
set_option maxRecDepth 20000 in
theorem gX12_copies_X12_isUser : GoodIn wsX12_copies (wsV RX12 228 RX12 yX12_isUser wsX12_isUser) := goodIn_app (goodIn_of _ (by decide +kernel)) ggX12_copies_X12_isUser
theorem dX12_copies_0 : decode cX12_copies 0 = .ok (.aload_n 0, 1) := by decide +kernel
theorem dX12_copies_1 : decode cX12_copies 1 = .ok (.iload_n 1, 1) := by decide +kernel
theorem dX12_copies_2 : decode cX12_copies 2 = .ok (.invokevirtual 228, 3) := by decide +kernel
theorem dX12_copies_5 : decode cX12_copies 5 = .ok (.ifCond .eq 30, 3) := by decide +kernel
theorem dX12_copies_8 : decode cX12_copies 8 = .ok (.aload_n 0, 1) := by decide +kernel
theorem dX12_copies_9 : decode cX12_copies 9 = .ok (.getfield 37, 3) := by decide +kernel
theorem dX12_copies_12 : decode cX12_copies 12 = .ok (.bipush 20, 2) := by decide +kernel
theorem dX12_copies_14 : decode cX12_copies 14 = .ok (.iload_n 1, 1) := by decide +kernel
theorem dX12_copies_15 : decode cX12_copies 15 = .ok (.iadd, 1) := by decide +kernel
theorem dX12_copies_16 : decode cX12_copies 16 = .ok (.iaload, 1) := by decide +kernel
theorem dX12_copies_17 : decode cX12_copies 17 = .ok (.i2l, 1) := by decide +kernel
theorem dX12_copies_18 : decode cX12_copies 18 = .ok (.bipush 24, 2) := by decide +kernel
theorem dX12_copies_20 : decode cX12_copies 20 = .ok (.lshl, 1) := by decide +kernel
theorem dX12_copies_21 : decode cX12_copies 21 = .ok (.aload_n 0, 1) := by decide +kernel
theorem dX12_copies_22 : decode cX12_copies 22 = .ok (.getfield 37, 3) := by decide +kernel
theorem dX12_copies_25 : decode cX12_copies 25 = .ok (.bipush 10, 2) := by decide +kernel
theorem dX12_copies_27 : decode cX12_copies 27 = .ok (.iload_n 1, 1) := by decide +kernel
theorem dX12_copies_28 : decode cX12_copies 28 = .ok (.iadd, 1) := by decide +kernel
theorem dX12_copies_29 : decode cX12_copies 29 = .ok (.iaload, 1) := by decide +kernel
theorem dX12_copies_30 : decode cX12_copies 30 = .ok (.i2l, 1) := by decide +kernel
theorem dX12_copies_31 : decode cX12_copies 31 = .ok (.lor, 1) := by decide +kernel
theorem dX12_copies_32 : decode cX12_copies 32 = .ok (.goto 4, 3) := by decide +kernel
theorem dX12_copies_35 : decode cX12_copies 35 = .ok (.lconst 0, 1) := by decide +kernel
theorem dX12_copies_36 : decode cX12_copies 36 = .ok (.lreturn, 1) := by decide +kernel
set_option maxRecDepth 20000 in
theorem ggX12_strength_X12_isUser : GoodIn wsX12_strength wsX12_isUser := goodIn_r _ [6, 7, 8, 9, 5, 10, 23, 24, 25, 26, 27, 28, 29, 30, 31, 32, 33, 34, 35, 36, 37, 38, 39, 40, 41, 42, 43, 44, 45, 46, 47, 48, 49, 50, 51, 52] (by decide +kernel) (by decide +kernel)
set_option maxRecDepth 20000 in
theorem gX12_strength_X12_isUser : GoodIn wsX12_strength (wsV RX12 228 RX12 yX12_isUser wsX12_isUser) := goodIn_app (goodIn_of _ (by decide +kernel)) ggX12_strength_X12_isUser
set_option maxRecDepth 20000 in
theorem ggX12_strength_Jxf58ca_floatToIntBits_5c35a : GoodIn wsX12_strength wsJxf58ca_floatToIntBits_5c35a := goodIn_r _ [14, 15, 16, 17, 18, 19, 20, 21, 13, 22] (by decide +kernel) (by decide +kernel)
set_option maxRecDepth 20000 in
theorem gX12_strength_Jxf58ca_floatToIntBits_5c35a : GoodIn wsX12_strength (va_wsS RX12 317 yJxf58ca_floatToIntBits_5c35a wsJxf58ca_floatToIntBits_5c35a) := goodIn_app (goodIn_of _ (by decide +kernel)) ggX12_strength_Jxf58ca_floatToIntBits_5c35a
theorem dX12_strength_0 : decode cX12_strength 0 = .ok (.aload_n 0, 1) := by decide +kernel
theorem dX12_strength_1 : decode cX12_strength 1 = .ok (.iload_n 1, 1) := by decide +kernel
theorem dX12_strength_2 : decode cX12_strength 2 = .ok (.invokevirtual 228, 3) := by decide +kernel
theorem dX12_strength_5 : decode cX12_strength 5 = .ok (.ifCond .eq 15, 3) := by decide +kernel
theorem dX12_strength_8 : decode cX12_strength 8 = .ok (.aload_n 0, 1) := by decide +kernel
theorem dX12_strength_9 : decode cX12_strength 9 = .ok (.getfield 43, 3) := by decide +kernel
theorem dX12_strength_12 : decode cX12_strength 12 = .ok (.iload_n 1, 1) := by decide +kernel
theorem dX12_strength_13 : decode cX12_strength 13 = .ok (.faload, 1) := by decide +kernel
theorem dX12_strength_14 : decode cX12_strength 14 = .ok (.invokestatic 317, 3) := by decide +kernel
theorem dX12_strength_17 : decode cX12_strength 17 = .ok (.goto 4, 3) := by decide +kernel
theorem dX12_strength_20 : decode cX12_strength 20 = .ok (.iconst (-1), 1) := by decide +kernel
theorem dX12_strength_21 : decode cX12_strength 21 = .ok (.ireturn, 1) := by decide +kernel
set_option maxRecDepth 20000 in
theorem ggX12_isAsked_X12_isUser : GoodIn wsX12_isAsked wsX12_isUser := goodIn_r _ [5, 6, 7, 8, 4, 9, 35, 36, 37, 38, 39, 40, 41, 42, 43, 44, 45, 46, 47, 48, 49, 50, 51, 52, 53, 54, 55, 56, 57, 58, 59, 60, 61, 62, 63, 64] (by decide +kernel) (by decide +kernel)
set_option maxRecDepth 20000 in
theorem gX12_isAsked_X12_isUser : GoodIn wsX12_isAsked (wsV RX12 228 RX12 yX12_isUser wsX12_isUser) := goodIn_app (goodIn_of _ (by decide +kernel)) ggX12_isAsked_X12_isUser
set_option maxRecDepth 20000 in
theorem ggX12_isAsked_X12_isSlot : GoodIn wsX12_isAsked wsX12_isSlot := goodIn_r _ [13, 14, 15, 16, 4, 17, 18, 19, 20, 21, 22, 6, 7, 8, 9, 35, 36, 37, 38, 39, 40, 41, 42, 43, 44, 45, 46, 47, 48, 49, 50, 51, 52, 53, 54, 55, 56, 57, 58, 59, 60, 61, 62, 63, 64] (by decide +kernel) (by decide +kernel)
set_option maxRecDepth 20000 in
theorem gX12_isAsked_X12_isSlot : GoodIn wsX12_isAsked (wsV RX12 231 RX12 yX12_isSlot wsX12_isSlot) := goodIn_app (goodIn_of _ (by decide +kernel)) ggX12_isAsked_X12_isSlot
set_option maxRecDepth 20000 in
theorem ggX12_isAsked_X12_isUnknown : GoodIn wsX12_isAsked wsX12_isUnknown := goodIn_r _ [26, 27, 35, 36, 37, 38, 39, 40, 41, 42, 43, 44, 45, 46, 47, 48, 49, 50, 51, 52, 53, 54, 55, 56, 57, 58, 59, 60, 61, 62, 63, 64] (by decide +kernel) (by decide +kernel)
set_option maxRecDepth 20000 in
theorem gX12_isAsked_X12_isUnknown : GoodIn wsX12_isAsked (wsV RX12 178 RX12 yX12_isUnknown wsX12_isUnknown) := goodIn_app (goodIn_of _ (by decide +kernel)) ggX12_isAsked_X12_isUnknown
set_option maxRecDepth 20000 in
theorem ggX12_isAsked_X12_hasCopy : GoodIn wsX12_isAsked wsX12_hasCopy := goodIn_r _ [31, 27, 32, 33, 4, 34, 35, 36, 37, 38, 39, 40, 41, 42, 43, 44, 45, 46, 47, 48, 49, 50, 51, 52, 53, 54, 55, 56, 57, 58, 59, 60, 61, 62, 63, 64] (by decide +kernel) (by decide +kernel)
set_option maxRecDepth 20000 in
theorem gX12_isAsked_X12_hasCopy : GoodIn wsX12_isAsked (wsV RX12 181 RX12 yX12_hasCopy wsX12_hasCopy) := goodIn_app (goodIn_of _ (by decide +kernel)) ggX12_isAsked_X12_hasCopy
theorem dX12_isAsked_0 : decode cX12_isAsked 0 = .ok (.aload_n 0, 1) := by decide +kernel
theorem dX12_isAsked_1 : decode cX12_isAsked 1 = .ok (.iload_n 1, 1) := by decide +kernel
theorem dX12_isAsked_2 : decode cX12_isAsked 2 = .ok (.invokevirtual 228, 3) := by decide +kernel
theorem dX12_isAsked_5 : decode cX12_isAsked 5 = .ok (.ifCond .eq 32, 3) := by decide +kernel
theorem dX12_isAsked_8 : decode cX12_isAsked 8 = .ok (.aload_n 0, 1) := by decide +kernel
theorem dX12_isAsked_9 : decode cX12_isAsked 9 = .ok (.iload_n 2, 1) := by decide +kernel
theorem dX12_isAsked_10 : decode cX12_isAsked 10 = .ok (.invokevirtual 231, 3) := by decide +kernel
theorem dX12_isAsked_13 : decode cX12_isAsked 13 = .ok (.ifCond .eq 24, 3) := by decide +kernel
theorem dX12_isAsked_16 : decode cX12_isAsked 16 = .ok (.aload_n 0, 1) := by decide +kernel
theorem dX12_isAsked_17 : decode cX12_isAsked 17 = .ok (.iload_n 1, 1) := by decide +kernel
theorem dX12_isAsked_18 : decode cX12_isAsked 18 = .ok (.invokevirtual 178, 3) := by decide +kernel
theorem dX12_isAsked_21 : decode cX12_isAsked 21 = .ok (.ifCond .eq 16, 3) := by decide +kernel
theorem dX12_isAsked_24 : decode cX12_isAsked 24 = .ok (.aload_n 0, 1) := by decide +kernel
theorem dX12_isAsked_25 : decode cX12_isAsked 25 = .ok (.iload_n 1, 1) := by decide +kernel
theorem dX12_isAsked_26 : decode cX12_isAsked 26 = .ok (.iload_n 2, 1) := by decide +kernel
theorem dX12_isAsked_27 : decode cX12_isAsked 27 = .ok (.invokevirtual 181, 3) := by decide +kernel
theorem dX12_isAsked_30 : decode cX12_isAsked 30 = .ok (.ifCond .eq 7, 3) := by decide +kernel
theorem dX12_isAsked_33 : decode cX12_isAsked 33 = .ok (.iconst 1, 1) := by decide +kernel
theorem dX12_isAsked_34 : decode cX12_isAsked 34 = .ok (.goto 4, 3) := by decide +kernel
theorem dX12_isAsked_37 : decode cX12_isAsked 37 = .ok (.iconst 0, 1) := by decide +kernel
theorem dX12_isAsked_38 : decode cX12_isAsked 38 = .ok (.ireturn, 1) := by decide +kernel
set_option maxRecDepth 20000 in
theorem ggX12_din_X12_isAsked : GoodIn wsX12_din wsX12_isAsked := goodIn_r _ [5, 6, 7, 8, 4, 9, 10, 11, 12, 13, 14, 15, 16, 17, 18, 19, 20, 21, 22, 23, 24, 25, 26, 27, 28, 29, 30, 31, 32, 33, 34, 35, 36, 37, 38, 57, 58, 59, 60, 61, 62, 63, 64, 65, 66, 67, 68, 69, 70, 71, 72, 73, 74, 75, 76, 77, 78, 79, 80, 81, 82, 83, 84, 85, 86] (by decide +kernel) (by decide +kernel)
set_option maxRecDepth 20000 in
theorem gX12_din_X12_isAsked : GoodIn wsX12_din (wsV RX12 323 RX12 yX12_isAsked wsX12_isAsked) := goodIn_app (goodIn_of _ (by decide +kernel)) ggX12_din_X12_isAsked
set_option maxRecDepth 20000 in
theorem ggX12_din_X12_dinAt : GoodIn wsX12_din wsX12_dinAt := goodIn_r _ [42, 22, 43, 10, 44, 27, 28, 29, 4, 30, 31, 32, 33, 34, 35, 36, 37, 38, 57, 58, 59, 60, 61, 62, 63, 64, 65, 66, 67, 68, 69, 70, 71, 72, 73, 74, 75, 76, 77, 78, 79, 80, 81, 82, 83, 84, 85, 86] (by decide +kernel) (by decide +kernel)
set_option maxRecDepth 20000 in
theorem gX12_din_X12_dinAt : GoodIn wsX12_din (wsV RX12 184 RX12 yX12_dinAt wsX12_dinAt) := goodIn_app (goodIn_of _ (by decide +kernel)) ggX12_din_X12_dinAt
set_option maxRecDepth 20000 in
theorem ggX12_din_Jxf58ca_floatToIntBits_5c35a : GoodIn wsX12_din wsJxf58ca_floatToIntBits_5c35a := goodIn_r _ [48, 49, 50, 51, 52, 53, 54, 55, 47, 56] (by decide +kernel) (by decide +kernel)
set_option maxRecDepth 20000 in
theorem gX12_din_Jxf58ca_floatToIntBits_5c35a : GoodIn wsX12_din (va_wsS RX12 317 yJxf58ca_floatToIntBits_5c35a wsJxf58ca_floatToIntBits_5c35a) := goodIn_app (goodIn_of _ (by decide +kernel)) ggX12_din_Jxf58ca_floatToIntBits_5c35a
theorem dX12_din_0 : decode cX12_din 0 = .ok (.aload_n 0, 1) := by decide +kernel
theorem dX12_din_1 : decode cX12_din 1 = .ok (.iload_n 1, 1) := by decide +kernel
theorem dX12_din_2 : decode cX12_din 2 = .ok (.iload_n 2, 1) := by decide +kernel
theorem dX12_din_3 : decode cX12_din 3 = .ok (.invokevirtual 323, 3) := by decide +kernel
theorem dX12_din_6 : decode cX12_din 6 = .ok (.ifCond .eq 15, 3) := by decide +kernel
theorem dX12_din_9 : decode cX12_din 9 = .ok (.aload_n 0, 1) := by decide +kernel
theorem dX12_din_10 : decode cX12_din 10 = .ok (.iload_n 1, 1) := by decide +kernel
theorem dX12_din_11 : decode cX12_din 11 = .ok (.iload_n 2, 1) := by decide +kernel
theorem dX12_din_12 : decode cX12_din 12 = .ok (.invokevirtual 184, 3) := by decide +kernel
theorem dX12_din_15 : decode cX12_din 15 = .ok (.invokestatic 317, 3) := by decide +kernel
theorem dX12_din_18 : decode cX12_din 18 = .ok (.goto 4, 3) := by decide +kernel
theorem dX12_din_21 : decode cX12_din 21 = .ok (.iconst (-1), 1) := by decide +kernel
theorem dX12_din_22 : decode cX12_din 22 = .ok (.ireturn, 1) := by decide +kernel
set_option maxRecDepth 20000 in
theorem ggX12_margin_X12_isAsked : GoodIn wsX12_margin wsX12_isAsked := goodIn_r _ [6, 7, 8, 9, 5, 10, 11, 12, 13, 14, 15, 16, 17, 18, 19, 20, 21, 22, 23, 24, 25, 26, 27, 28, 29, 30, 31, 32, 33, 34, 35, 36, 37, 38, 39, 61, 62, 63, 64, 65, 66, 67, 68, 69, 70, 71, 72, 73, 74, 75, 76, 77, 78, 79, 80, 81, 82, 83, 84, 85, 86, 87, 88, 89, 90] (by decide +kernel) (by decide +kernel)
set_option maxRecDepth 20000 in
theorem gX12_margin_X12_isAsked : GoodIn wsX12_margin (wsV RX12 323 RX12 yX12_isAsked wsX12_isAsked) := goodIn_app (goodIn_of _ (by decide +kernel)) ggX12_margin_X12_isAsked
set_option maxRecDepth 20000 in
theorem ggX12_margin_X12_bar : GoodIn wsX12_margin wsX12_bar := goodIn_r _ [43, 32, 44, 45, 46, 47, 5, 48, 23, 11, 1, 28, 29, 30, 31, 33, 34, 35, 36, 37, 38, 39, 61, 62, 63, 64, 65, 66, 67, 68, 69, 70, 71, 72, 73, 74, 75, 76, 77, 78, 79, 80, 81, 82, 83, 84, 85, 86, 87, 88, 89, 90] (by decide +kernel) (by decide +kernel)
set_option maxRecDepth 20000 in
theorem gX12_margin_X12_bar : GoodIn wsX12_margin (wsV RX12 195 RX12 yX12_bar wsX12_bar) := goodIn_app (goodIn_of _ (by decide +kernel)) ggX12_margin_X12_bar
set_option maxRecDepth 20000 in
theorem ggX12_margin_Jxf58ca_floatToIntBits_5c35a : GoodIn wsX12_margin wsJxf58ca_floatToIntBits_5c35a := goodIn_r _ [52, 53, 54, 55, 56, 57, 58, 59, 51, 60] (by decide +kernel) (by decide +kernel)
set_option maxRecDepth 20000 in
theorem gX12_margin_Jxf58ca_floatToIntBits_5c35a : GoodIn wsX12_margin (va_wsS RX12 317 yJxf58ca_floatToIntBits_5c35a wsJxf58ca_floatToIntBits_5c35a) := goodIn_app (goodIn_of _ (by decide +kernel)) ggX12_margin_Jxf58ca_floatToIntBits_5c35a
theorem dX12_margin_0 : decode cX12_margin 0 = .ok (.aload_n 0, 1) := by decide +kernel
theorem dX12_margin_1 : decode cX12_margin 1 = .ok (.iload_n 1, 1) := by decide +kernel
theorem dX12_margin_2 : decode cX12_margin 2 = .ok (.iload_n 2, 1) := by decide +kernel
theorem dX12_margin_3 : decode cX12_margin 3 = .ok (.invokevirtual 323, 3) := by decide +kernel
theorem dX12_margin_6 : decode cX12_margin 6 = .ok (.ifCond .eq 22, 3) := by decide +kernel
theorem dX12_margin_9 : decode cX12_margin 9 = .ok (.aload_n 0, 1) := by decide +kernel
theorem dX12_margin_10 : decode cX12_margin 10 = .ok (.getfield 43, 3) := by decide +kernel
theorem dX12_margin_13 : decode cX12_margin 13 = .ok (.iload_n 1, 1) := by decide +kernel
theorem dX12_margin_14 : decode cX12_margin 14 = .ok (.faload, 1) := by decide +kernel
theorem dX12_margin_15 : decode cX12_margin 15 = .ok (.aload_n 0, 1) := by decide +kernel
theorem dX12_margin_16 : decode cX12_margin 16 = .ok (.iload_n 1, 1) := by decide +kernel
theorem dX12_margin_17 : decode cX12_margin 17 = .ok (.iload_n 2, 1) := by decide +kernel
theorem dX12_margin_18 : decode cX12_margin 18 = .ok (.invokevirtual 195, 3) := by decide +kernel
theorem dX12_margin_21 : decode cX12_margin 21 = .ok (.fsub, 1) := by decide +kernel
theorem dX12_margin_22 : decode cX12_margin 22 = .ok (.invokestatic 317, 3) := by decide +kernel
theorem dX12_margin_25 : decode cX12_margin 25 = .ok (.goto 4, 3) := by decide +kernel
theorem dX12_margin_28 : decode cX12_margin 28 = .ok (.iconst (-1), 1) := by decide +kernel
theorem dX12_margin_29 : decode cX12_margin 29 = .ok (.ireturn, 1) := by decide +kernel
set_option maxRecDepth 20000 in
theorem ggX12_clear_X12_isAsked : GoodIn wsX12_clear wsX12_isAsked := goodIn_r _ [5, 6, 7, 8, 4, 9, 10, 11, 12, 13, 14, 15, 16, 17, 18, 19, 20, 21, 22, 23, 24, 25, 26, 27, 28, 29, 30, 31, 32, 33, 34, 35, 36, 37, 38, 58, 59, 60, 61, 62, 63, 64, 65, 66, 67, 68, 69, 70, 71, 72, 73, 74, 75, 76, 77, 78, 79, 80, 81, 82, 83, 84, 85, 86, 87] (by decide +kernel) (by decide +kernel)
set_option maxRecDepth 20000 in
theorem gX12_clear_X12_isAsked : GoodIn wsX12_clear (wsV RX12 323 RX12 yX12_isAsked wsX12_isAsked) := goodIn_app (goodIn_of _ (by decide +kernel)) ggX12_clear_X12_isAsked
set_option maxRecDepth 20000 in
theorem ggX12_clear_X12_isClear : GoodIn wsX12_clear wsX12_isClear := goodIn_r _ [42, 43, 31, 44, 27, 28, 29, 4, 30, 32, 33, 34, 35, 36, 37, 38, 45, 46, 47, 48, 10, 49, 50, 51, 52, 53, 54, 55, 56, 57, 22, 58, 59, 60, 61, 62, 63, 64, 65, 66, 67, 68, 69, 70, 71, 72, 73, 74, 75, 76, 77, 78, 79, 80, 81, 82, 83, 84, 85, 86, 87] (by decide +kernel) (by decide +kernel)
set_option maxRecDepth 20000 in
theorem gX12_clear_X12_isClear : GoodIn wsX12_clear (wsV RX12 198 RX12 yX12_isClear wsX12_isClear) := goodIn_app (goodIn_of _ (by decide +kernel)) ggX12_clear_X12_isClear
theorem dX12_clear_0 : decode cX12_clear 0 = .ok (.aload_n 0, 1) := by decide +kernel
theorem dX12_clear_1 : decode cX12_clear 1 = .ok (.iload_n 1, 1) := by decide +kernel
theorem dX12_clear_2 : decode cX12_clear 2 = .ok (.iload_n 2, 1) := by decide +kernel
theorem dX12_clear_3 : decode cX12_clear 3 = .ok (.invokevirtual 323, 3) := by decide +kernel
theorem dX12_clear_6 : decode cX12_clear 6 = .ok (.ifCond .ne 7, 3) := by decide +kernel
theorem dX12_clear_9 : decode cX12_clear 9 = .ok (.iconst (-1), 1) := by decide +kernel
theorem dX12_clear_10 : decode cX12_clear 10 = .ok (.goto 17, 3) := by decide +kernel
theorem dX12_clear_13 : decode cX12_clear 13 = .ok (.aload_n 0, 1) := by decide +kernel
theorem dX12_clear_14 : decode cX12_clear 14 = .ok (.iload_n 1, 1) := by decide +kernel
theorem dX12_clear_15 : decode cX12_clear 15 = .ok (.iload_n 2, 1) := by decide +kernel
theorem dX12_clear_16 : decode cX12_clear 16 = .ok (.invokevirtual 198, 3) := by decide +kernel
theorem dX12_clear_19 : decode cX12_clear 19 = .ok (.ifCond .eq 7, 3) := by decide +kernel
theorem dX12_clear_22 : decode cX12_clear 22 = .ok (.iconst 1, 1) := by decide +kernel
theorem dX12_clear_23 : decode cX12_clear 23 = .ok (.goto 4, 3) := by decide +kernel
theorem dX12_clear_26 : decode cX12_clear 26 = .ok (.iconst 0, 1) := by decide +kernel
theorem dX12_clear_27 : decode cX12_clear 27 = .ok (.ireturn, 1) := by decide +kernel
set_option maxRecDepth 20000 in
theorem ggX12_copiesIn_X12_hasCopy : GoodIn wsX12_copiesIn wsX12_hasCopy := goodIn_r _ [6, 7, 8, 9, 5, 10, 11, 12, 13, 14, 15, 16, 17, 18, 19, 20, 21, 22, 23, 24, 25, 26, 27, 28, 29, 30, 31, 32, 33, 34, 35, 36, 37, 38, 39, 40] (by decide +kernel) (by decide +kernel)
set_option maxRecDepth 20000 in
theorem gX12_copiesIn_X12_hasCopy : GoodIn wsX12_copiesIn (wsV RX12 181 RX12 yX12_hasCopy wsX12_hasCopy) := goodIn_app (goodIn_of _ (by decide +kernel)) ggX12_copiesIn_X12_hasCopy
theorem dX12_copiesIn_0 : decode cX12_copiesIn 0 = .ok (.iconst 0, 1) := by decide +kernel
theorem dX12_copiesIn_1 : decode cX12_copiesIn 1 = .ok (.istore_n 2, 1) := by decide +kernel
theorem dX12_copiesIn_2 : decode cX12_copiesIn 2 = .ok (.iconst 0, 1) := by decide +kernel
theorem dX12_copiesIn_3 : decode cX12_copiesIn 3 = .ok (.istore_n 3, 1) := by decide +kernel
theorem dX12_copiesIn_4 : decode cX12_copiesIn 4 = .ok (.iload_n 3, 1) := by decide +kernel
theorem dX12_copiesIn_5 : decode cX12_copiesIn 5 = .ok (.aload_n 0, 1) := by decide +kernel
theorem dX12_copiesIn_6 : decode cX12_copiesIn 6 = .ok (.getfield 148, 3) := by decide +kernel
theorem dX12_copiesIn_9 : decode cX12_copiesIn 9 = .ok (.if_icmp .ge 26, 3) := by decide +kernel
theorem dX12_copiesIn_12 : decode cX12_copiesIn 12 = .ok (.iload_n 2, 1) := by decide +kernel
theorem dX12_copiesIn_13 : decode cX12_copiesIn 13 = .ok (.aload_n 0, 1) := by decide +kernel
theorem dX12_copiesIn_14 : decode cX12_copiesIn 14 = .ok (.iload_n 3, 1) := by decide +kernel
theorem dX12_copiesIn_15 : decode cX12_copiesIn 15 = .ok (.iload_n 1, 1) := by decide +kernel
theorem dX12_copiesIn_16 : decode cX12_copiesIn 16 = .ok (.invokevirtual 181, 3) := by decide +kernel
theorem dX12_copiesIn_19 : decode cX12_copiesIn 19 = .ok (.ifCond .eq 7, 3) := by decide +kernel
theorem dX12_copiesIn_22 : decode cX12_copiesIn 22 = .ok (.iconst 1, 1) := by decide +kernel
theorem dX12_copiesIn_23 : decode cX12_copiesIn 23 = .ok (.goto 4, 3) := by decide +kernel
theorem dX12_copiesIn_26 : decode cX12_copiesIn 26 = .ok (.iconst 0, 1) := by decide +kernel
theorem dX12_copiesIn_27 : decode cX12_copiesIn 27 = .ok (.iadd, 1) := by decide +kernel
theorem dX12_copiesIn_28 : decode cX12_copiesIn 28 = .ok (.istore_n 2, 1) := by decide +kernel
theorem dX12_copiesIn_29 : decode cX12_copiesIn 29 = .ok (.iinc 3 1, 3) := by decide +kernel
theorem dX12_copiesIn_32 : decode cX12_copiesIn 32 = .ok (.goto (-28), 3) := by decide +kernel
theorem dX12_copiesIn_35 : decode cX12_copiesIn 35 = .ok (.iload_n 2, 1) := by decide +kernel
theorem dX12_copiesIn_36 : decode cX12_copiesIn 36 = .ok (.ireturn, 1) := by decide +kernel
set_option maxRecDepth 20000 in
theorem ggX12_slot_X12_isSlot : GoodIn wsX12_slot wsX12_isSlot := goodIn_r _ [6, 7, 8, 9, 5, 10, 11, 12, 13, 14, 15, 16, 17, 18, 19, 62, 63, 64, 65, 66, 67, 68, 69, 70, 71, 72, 73, 74, 75, 76, 77, 78, 79, 80, 81, 82, 83, 84, 85, 86, 87, 88, 89, 90, 91] (by decide +kernel) (by decide +kernel)
set_option maxRecDepth 20000 in
theorem gX12_slot_X12_isSlot : GoodIn wsX12_slot (wsV RX12 231 RX12 yX12_isSlot wsX12_isSlot) := goodIn_app (goodIn_of _ (by decide +kernel)) ggX12_slot_X12_isSlot
set_option maxRecDepth 20000 in
theorem ggX12_slot_X12_in : GoodIn wsX12_slot wsX12_in := goodIn_r _ [19] (by decide +kernel) (by decide +kernel)
set_option maxRecDepth 20000 in
theorem gX12_slot_X12_in : GoodIn wsX12_slot (va_wsS RX12 76 yX12_in wsX12_in) := goodIn_app (goodIn_of _ (by decide +kernel)) ggX12_slot_X12_in
set_option maxRecDepth 20000 in
theorem ggX12_slot_X12_copiesIn : GoodIn wsX12_slot wsX12_copiesIn := goodIn_r _ [23, 16, 24, 25, 26, 5, 27, 28, 29, 30, 31, 62, 63, 64, 65, 66, 67, 68, 69, 70, 71, 72, 73, 74, 75, 76, 77, 78, 79, 80, 81, 82, 83, 84, 85, 86, 87, 88, 89, 90, 91] (by decide +kernel) (by decide +kernel)
set_option maxRecDepth 20000 in
theorem gX12_slot_X12_copiesIn : GoodIn wsX12_slot (wsV RX12 326 RX12 yX12_copiesIn wsX12_copiesIn) := goodIn_app (goodIn_of _ (by decide +kernel)) ggX12_slot_X12_copiesIn
set_option maxRecDepth 20000 in
theorem ggX12_slot_X12_unknownIn : GoodIn wsX12_slot wsX12_unknownIn := goodIn_r _ [35, 16, 36, 37, 38, 5, 39, 28, 24, 25, 26, 27, 29, 30, 31, 62, 63, 64, 65, 66, 67, 68, 69, 70, 71, 72, 73, 74, 75, 76, 77, 78, 79, 80, 81, 82, 83, 84, 85, 86, 87, 88, 89, 90, 91] (by decide +kernel) (by decide +kernel)
set_option maxRecDepth 20000 in
theorem gX12_slot_X12_unknownIn : GoodIn wsX12_slot (wsV RX12 192 RX12 yX12_unknownIn wsX12_unknownIn) := goodIn_app (goodIn_of _ (by decide +kernel)) ggX12_slot_X12_unknownIn
set_option maxRecDepth 20000 in
theorem ggX12_slot_X12_bits : GoodIn wsX12_slot wsX12_bits := goodIn_r _ [42] (by decide +kernel) (by decide +kernel)
set_option maxRecDepth 20000 in
theorem gX12_slot_X12_bits : GoodIn wsX12_slot (va_wsS RX12 157 yX12_bits wsX12_bits) := goodIn_app (goodIn_of _ (by decide +kernel)) ggX12_slot_X12_bits
set_option maxRecDepth 20000 in
theorem ggX12_slot_X12_clearIn : GoodIn wsX12_slot wsX12_clearIn := goodIn_r _ [46, 16, 47, 48, 49, 5, 50, 51, 28, 52, 36, 37, 38, 39, 24, 25, 26, 27, 29, 30, 31, 32, 33, 34, 35, 53, 54, 55, 56, 57, 58, 59, 60, 61, 11, 62, 63, 64, 65, 66, 67, 68, 69, 70, 71, 72, 73, 74, 75, 76, 77, 78, 79, 80, 81, 82, 83, 84, 85, 86, 87, 88, 89, 90, 91] (by decide +kernel) (by decide +kernel)
set_option maxRecDepth 20000 in
theorem gX12_slot_X12_clearIn : GoodIn wsX12_slot (wsV RX12 201 RX12 yX12_clearIn wsX12_clearIn) := goodIn_app (goodIn_of _ (by decide +kernel)) ggX12_slot_X12_clearIn
theorem dX12_slot_0 : decode cX12_slot 0 = .ok (.aload_n 0, 1) := by decide +kernel
theorem dX12_slot_1 : decode cX12_slot 1 = .ok (.iload_n 1, 1) := by decide +kernel
theorem dX12_slot_2 : decode cX12_slot 2 = .ok (.invokevirtual 231, 3) := by decide +kernel
theorem dX12_slot_5 : decode cX12_slot 5 = .ok (.ifCond .eq 12, 3) := by decide +kernel
theorem dX12_slot_8 : decode cX12_slot 8 = .ok (.iload_n 2, 1) := by decide +kernel
theorem dX12_slot_9 : decode cX12_slot 9 = .ok (.iconst 0, 1) := by decide +kernel
theorem dX12_slot_10 : decode cX12_slot 10 = .ok (.iconst 3, 1) := by decide +kernel
theorem dX12_slot_11 : decode cX12_slot 11 = .ok (.invokestatic 76, 3) := by decide +kernel
theorem dX12_slot_14 : decode cX12_slot 14 = .ok (.ifCond .ne 7, 3) := by decide +kernel
theorem dX12_slot_17 : decode cX12_slot 17 = .ok (.ldc_w 313, 3) := by decide +kernel
theorem dX12_slot_20 : decode cX12_slot 20 = .ok (.ireturn, 1) := by decide +kernel
theorem dX12_slot_21 : decode cX12_slot 21 = .ok (.iload_n 2, 1) := by decide +kernel
theorem dX12_slot_22 : decode cX12_slot 22 = .ok (.ifCond .ne 11, 3) := by decide +kernel
theorem dX12_slot_25 : decode cX12_slot 25 = .ok (.aload_n 0, 1) := by decide +kernel
theorem dX12_slot_26 : decode cX12_slot 26 = .ok (.iload_n 1, 1) := by decide +kernel
theorem dX12_slot_27 : decode cX12_slot 27 = .ok (.invokevirtual 326, 3) := by decide +kernel
theorem dX12_slot_30 : decode cX12_slot 30 = .ok (.goto 37, 3) := by decide +kernel
theorem dX12_slot_33 : decode cX12_slot 33 = .ok (.iload_n 2, 1) := by decide +kernel
theorem dX12_slot_34 : decode cX12_slot 34 = .ok (.iconst 1, 1) := by decide +kernel
theorem dX12_slot_35 : decode cX12_slot 35 = .ok (.if_icmp .ne 14, 3) := by decide +kernel
theorem dX12_slot_38 : decode cX12_slot 38 = .ok (.aload_n 0, 1) := by decide +kernel
theorem dX12_slot_39 : decode cX12_slot 39 = .ok (.iload_n 1, 1) := by decide +kernel
theorem dX12_slot_40 : decode cX12_slot 40 = .ok (.invokevirtual 192, 3) := by decide +kernel
theorem dX12_slot_43 : decode cX12_slot 43 = .ok (.invokestatic 157, 3) := by decide +kernel
theorem dX12_slot_46 : decode cX12_slot 46 = .ok (.goto 21, 3) := by decide +kernel
theorem dX12_slot_49 : decode cX12_slot 49 = .ok (.iload_n 2, 1) := by decide +kernel
theorem dX12_slot_50 : decode cX12_slot 50 = .ok (.iconst 2, 1) := by decide +kernel
theorem dX12_slot_51 : decode cX12_slot 51 = .ok (.if_icmp .ne 11, 3) := by decide +kernel
theorem dX12_slot_54 : decode cX12_slot 54 = .ok (.aload_n 0, 1) := by decide +kernel
theorem dX12_slot_55 : decode cX12_slot 55 = .ok (.iload_n 1, 1) := by decide +kernel
theorem dX12_slot_56 : decode cX12_slot 56 = .ok (.invokevirtual 192, 3) := by decide +kernel
theorem dX12_slot_59 : decode cX12_slot 59 = .ok (.goto 8, 3) := by decide +kernel
theorem dX12_slot_62 : decode cX12_slot 62 = .ok (.aload_n 0, 1) := by decide +kernel
theorem dX12_slot_63 : decode cX12_slot 63 = .ok (.iload_n 1, 1) := by decide +kernel
theorem dX12_slot_64 : decode cX12_slot 64 = .ok (.invokevirtual 201, 3) := by decide +kernel
theorem dX12_slot_67 : decode cX12_slot 67 = .ok (.ireturn, 1) := by decide +kernel
set_option maxRecDepth 20000 in
theorem ggX12_frame_X12_isField : GoodIn wsX12_frame wsX12_isField := goodIn_r _ [8, 2, 80, 81, 82, 83, 84, 85, 86, 87, 88, 89, 90, 91, 92, 93, 94, 95, 96, 97, 98, 99, 100, 101, 102, 103, 104, 105, 106, 107, 108, 109] (by decide +kernel) (by decide +kernel)
set_option maxRecDepth 20000 in
theorem gX12_frame_X12_isField : GoodIn wsX12_frame (wsV RX12 151 RX12 yX12_isField wsX12_isField) := goodIn_app (goodIn_of _ (by decide +kernel)) ggX12_frame_X12_isField
set_option maxRecDepth 20000 in
theorem ggX12_frame_X12_in : GoodIn wsX12_frame wsX12_in := goodIn_r _ [11] (by decide +kernel) (by decide +kernel)
set_option maxRecDepth 20000 in
theorem gX12_frame_X12_in : GoodIn wsX12_frame (va_wsS RX12 76 yX12_in wsX12_in) := goodIn_app (goodIn_of _ (by decide +kernel)) ggX12_frame_X12_in
set_option maxRecDepth 20000 in
theorem ggX12_frame_X12_layOccupied : GoodIn wsX12_frame wsX12_layOccupied := goodIn_r _ [15, 16, 2, 17, 18, 19, 7, 20, 1, 4, 5, 6, 8, 21, 22, 23, 24, 25, 26, 27, 28, 80, 81, 82, 83, 84, 85, 86, 87, 88, 89, 90, 91, 92, 93, 94, 95, 96, 97, 98, 99, 100, 101, 102, 103, 104, 105, 106, 107, 108, 109] (by decide +kernel) (by decide +kernel)
set_option maxRecDepth 20000 in
theorem gX12_frame_X12_layOccupied : GoodIn wsX12_frame (wsV RX12 329 RX12 yX12_layOccupied wsX12_layOccupied) := goodIn_app (goodIn_of _ (by decide +kernel)) ggX12_frame_X12_layOccupied
set_option maxRecDepth 20000 in
theorem ggX12_frame_X12_unknownOnes : GoodIn wsX12_frame wsX12_unknownOnes := goodIn_r _ [32, 33, 34, 35, 7, 36, 2, 37, 38, 39, 40, 41, 42, 43, 44, 25, 80, 81, 82, 83, 84, 85, 86, 87, 88, 89, 90, 91, 92, 93, 94, 95, 96, 97, 98, 99, 100, 101, 102, 103, 104, 105, 106, 107, 108, 109] (by decide +kernel) (by decide +kernel)
set_option maxRecDepth 20000 in
theorem gX12_frame_X12_unknownOnes : GoodIn wsX12_frame (wsV RX12 332 RX12 yX12_unknownOnes wsX12_unknownOnes) := goodIn_app (goodIn_of _ (by decide +kernel)) ggX12_frame_X12_unknownOnes
set_option maxRecDepth 20000 in
theorem ggX12_frame_X12_remaining : GoodIn wsX12_frame wsX12_remaining := goodIn_r _ [48, 17, 18, 19, 7, 20, 1, 4, 5, 6, 8, 2, 49, 50, 51, 52, 16, 53, 25, 54, 55, 26, 27, 28, 80, 81, 82, 83, 84, 85, 86, 87, 88, 89, 90, 91, 92, 93, 94, 95, 96, 97, 98, 99, 100, 101, 102, 103, 104, 105, 106, 107, 108, 109] (by decide +kernel) (by decide +kernel)
set_option maxRecDepth 20000 in
theorem gX12_frame_X12_remaining : GoodIn wsX12_frame (wsV RX12 335 RX12 yX12_remaining wsX12_remaining) := goodIn_app (goodIn_of _ (by decide +kernel)) ggX12_frame_X12_remaining
set_option maxRecDepth 20000 in
theorem ggX12_frame_X12_has : GoodIn wsX12_frame wsX12_has := goodIn_r _ [28] (by decide +kernel) (by decide +kernel)
set_option maxRecDepth 20000 in
theorem gX12_frame_X12_has : GoodIn wsX12_frame (va_wsS RX12 107 yX12_has wsX12_has) := goodIn_app (goodIn_of _ (by decide +kernel)) ggX12_frame_X12_has
set_option maxRecDepth 20000 in
theorem ggX12_frame_X12_isUnknown : GoodIn wsX12_frame wsX12_isUnknown := goodIn_r _ [44, 25, 80, 81, 82, 83, 84, 85, 86, 87, 88, 89, 90, 91, 92, 93, 94, 95, 96, 97, 98, 99, 100, 101, 102, 103, 104, 105, 106, 107, 108, 109] (by decide +kernel) (by decide +kernel)
set_option maxRecDepth 20000 in
theorem gX12_frame_X12_isUnknown : GoodIn wsX12_frame (wsV RX12 178 RX12 yX12_isUnknown wsX12_isUnknown) := goodIn_app (goodIn_of _ (by decide +kernel)) ggX12_frame_X12_isUnknown
set_option maxRecDepth 20000 in
theorem ggX12_frame_X12_copiesIn : GoodIn wsX12_frame wsX12_copiesIn := goodIn_r _ [59, 2, 21, 22, 23, 7, 24, 25, 26, 27, 28, 80, 81, 82, 83, 84, 85, 86, 87, 88, 89, 90, 91, 92, 93, 94, 95, 96, 97, 98, 99, 100, 101, 102, 103, 104, 105, 106, 107, 108, 109] (by decide +kernel) (by decide +kernel)
set_option maxRecDepth 20000 in
theorem gX12_frame_X12_copiesIn : GoodIn wsX12_frame (wsV RX12 326 RX12 yX12_copiesIn wsX12_copiesIn) := goodIn_app (goodIn_of _ (by decide +kernel)) ggX12_frame_X12_copiesIn
set_option maxRecDepth 20000 in
theorem ggX12_frame_X12_clearIn : GoodIn wsX12_frame wsX12_clearIn := goodIn_r _ [63, 2, 64, 65, 66, 7, 67, 53, 25, 55, 41, 42, 43, 44, 21, 22, 23, 24, 26, 27, 28, 68, 69, 70, 71, 72, 73, 74, 75, 54, 76, 77, 78, 79, 1, 80, 81, 82, 83, 84, 85, 86, 87, 88, 89, 90, 91, 92, 93, 94, 95, 96, 97, 98, 99, 100, 101, 102, 103, 104, 105, 106, 107, 108, 109] (by decide +kernel) (by decide +kernel)
set_option maxRecDepth 20000 in
theorem gX12_frame_X12_clearIn : GoodIn wsX12_frame (wsV RX12 201 RX12 yX12_clearIn wsX12_clearIn) := goodIn_app (goodIn_of _ (by decide +kernel)) ggX12_frame_X12_clearIn
theorem dX12_frame_0 : decode cX12_frame 0 = .ok (.aload_n 0, 1) := by decide +kernel
theorem dX12_frame_1 : decode cX12_frame 1 = .ok (.invokevirtual 151, 3) := by decide +kernel
theorem dX12_frame_4 : decode cX12_frame 4 = .ok (.ifCond .eq 28, 3) := by decide +kernel
theorem dX12_frame_7 : decode cX12_frame 7 = .ok (.iload_n 1, 1) := by decide +kernel
theorem dX12_frame_8 : decode cX12_frame 8 = .ok (.iconst 0, 1) := by decide +kernel
theorem dX12_frame_9 : decode cX12_frame 9 = .ok (.aload_n 0, 1) := by decide +kernel
theorem dX12_frame_10 : decode cX12_frame 10 = .ok (.getfield 22, 3) := by decide +kernel
theorem dX12_frame_13 : decode cX12_frame 13 = .ok (.iconst 1, 1) := by decide +kernel
theorem dX12_frame_14 : decode cX12_frame 14 = .ok (.iaload, 1) := by decide +kernel
theorem dX12_frame_15 : decode cX12_frame 15 = .ok (.iconst 1, 1) := by decide +kernel
theorem dX12_frame_16 : decode cX12_frame 16 = .ok (.isub, 1) := by decide +kernel
theorem dX12_frame_17 : decode cX12_frame 17 = .ok (.invokestatic 76, 3) := by decide +kernel
theorem dX12_frame_20 : decode cX12_frame 20 = .ok (.ifCond .eq 12, 3) := by decide +kernel
theorem dX12_frame_23 : decode cX12_frame 23 = .ok (.iload_n 2, 1) := by decide +kernel
theorem dX12_frame_24 : decode cX12_frame 24 = .ok (.iconst 0, 1) := by decide +kernel
theorem dX12_frame_25 : decode cX12_frame 25 = .ok (.iconst 4, 1) := by decide +kernel
theorem dX12_frame_26 : decode cX12_frame 26 = .ok (.invokestatic 76, 3) := by decide +kernel
theorem dX12_frame_29 : decode cX12_frame 29 = .ok (.ifCond .ne 5, 3) := by decide +kernel
theorem dX12_frame_32 : decode cX12_frame 32 = .ok (.iconst (-1), 1) := by decide +kernel
theorem dX12_frame_33 : decode cX12_frame 33 = .ok (.ireturn, 1) := by decide +kernel
theorem dX12_frame_34 : decode cX12_frame 34 = .ok (.iconst 0, 1) := by decide +kernel
theorem dX12_frame_35 : decode cX12_frame 35 = .ok (.istore_n 3, 1) := by decide +kernel
theorem dX12_frame_36 : decode cX12_frame 36 = .ok (.iload_n 2, 1) := by decide +kernel
theorem dX12_frame_37 : decode cX12_frame 37 = .ok (.iconst 4, 1) := by decide +kernel
theorem dX12_frame_38 : decode cX12_frame 38 = .ok (.if_icmp .ne 70, 3) := by decide +kernel
theorem dX12_frame_41 : decode cX12_frame 41 = .ok (.aload_n 0, 1) := by decide +kernel
theorem dX12_frame_42 : decode cX12_frame 42 = .ok (.invokevirtual 329, 3) := by decide +kernel
theorem dX12_frame_45 : decode cX12_frame 45 = .ok (.aload_n 0, 1) := by decide +kernel
theorem dX12_frame_46 : decode cX12_frame 46 = .ok (.aload_n 0, 1) := by decide +kernel
theorem dX12_frame_47 : decode cX12_frame 47 = .ok (.invokevirtual 332, 3) := by decide +kernel
theorem dX12_frame_50 : decode cX12_frame 50 = .ok (.invokevirtual 335, 3) := by decide +kernel
theorem dX12_frame_53 : decode cX12_frame 53 = .ok (.istore 4, 2) := by decide +kernel
theorem dX12_frame_55 : decode cX12_frame 55 = .ok (.iconst 0, 1) := by decide +kernel
theorem dX12_frame_56 : decode cX12_frame 56 = .ok (.istore 5, 2) := by decide +kernel
theorem dX12_frame_58 : decode cX12_frame 58 = .ok (.iload 5, 2) := by decide +kernel
theorem dX12_frame_60 : decode cX12_frame 60 = .ok (.aload_n 0, 1) := by decide +kernel
theorem dX12_frame_61 : decode cX12_frame 61 = .ok (.getfield 148, 3) := by decide +kernel
theorem dX12_frame_64 : decode cX12_frame 64 = .ok (.if_icmp .ge 42, 3) := by decide +kernel
theorem dX12_frame_67 : decode cX12_frame 67 = .ok (.iload_n 3, 1) := by decide +kernel
theorem dX12_frame_68 : decode cX12_frame 68 = .ok (.aload_n 0, 1) := by decide +kernel
theorem dX12_frame_69 : decode cX12_frame 69 = .ok (.getfield 25, 3) := by decide +kernel
theorem dX12_frame_72 : decode cX12_frame 72 = .ok (.iconst 5, 1) := by decide +kernel
theorem dX12_frame_73 : decode cX12_frame 73 = .ok (.iload 5, 2) := by decide +kernel
theorem dX12_frame_75 : decode cX12_frame 75 = .ok (.imul, 1) := by decide +kernel
theorem dX12_frame_76 : decode cX12_frame 76 = .ok (.iconst 2, 1) := by decide +kernel
theorem dX12_frame_77 : decode cX12_frame 77 = .ok (.iadd, 1) := by decide +kernel
theorem dX12_frame_78 : decode cX12_frame 78 = .ok (.iaload, 1) := by decide +kernel
theorem dX12_frame_79 : decode cX12_frame 79 = .ok (.iload_n 1, 1) := by decide +kernel
theorem dX12_frame_80 : decode cX12_frame 80 = .ok (.if_icmp .ne 17, 3) := by decide +kernel
theorem dX12_frame_83 : decode cX12_frame 83 = .ok (.iload 4, 2) := by decide +kernel
theorem dX12_frame_85 : decode cX12_frame 85 = .ok (.iload 5, 2) := by decide +kernel
theorem dX12_frame_87 : decode cX12_frame 87 = .ok (.invokestatic 107, 3) := by decide +kernel
theorem dX12_frame_90 : decode cX12_frame 90 = .ok (.ifCond .eq 7, 3) := by decide +kernel
theorem dX12_frame_93 : decode cX12_frame 93 = .ok (.iconst 1, 1) := by decide +kernel
theorem dX12_frame_94 : decode cX12_frame 94 = .ok (.goto 4, 3) := by decide +kernel
theorem dX12_frame_97 : decode cX12_frame 97 = .ok (.iconst 0, 1) := by decide +kernel
theorem dX12_frame_98 : decode cX12_frame 98 = .ok (.iadd, 1) := by decide +kernel
theorem dX12_frame_99 : decode cX12_frame 99 = .ok (.istore_n 3, 1) := by decide +kernel
theorem dX12_frame_100 : decode cX12_frame 100 = .ok (.iinc 5 1, 3) := by decide +kernel
theorem dX12_frame_103 : decode cX12_frame 103 = .ok (.goto (-45), 3) := by decide +kernel
theorem dX12_frame_106 : decode cX12_frame 106 = .ok (.iload_n 3, 1) := by decide +kernel
theorem dX12_frame_107 : decode cX12_frame 107 = .ok (.ireturn, 1) := by decide +kernel
theorem dX12_frame_108 : decode cX12_frame 108 = .ok (.iconst 0, 1) := by decide +kernel
theorem dX12_frame_109 : decode cX12_frame 109 = .ok (.istore 4, 2) := by decide +kernel
theorem dX12_frame_111 : decode cX12_frame 111 = .ok (.iload 4, 2) := by decide +kernel
theorem dX12_frame_113 : decode cX12_frame 113 = .ok (.aload_n 0, 1) := by decide +kernel
theorem dX12_frame_114 : decode cX12_frame 114 = .ok (.getfield 148, 3) := by decide +kernel
theorem dX12_frame_117 : decode cX12_frame 117 = .ok (.if_icmp .ge 50, 3) := by decide +kernel
theorem dX12_frame_120 : decode cX12_frame 120 = .ok (.iload_n 2, 1) := by decide +kernel
theorem dX12_frame_121 : decode cX12_frame 121 = .ok (.iconst 2, 1) := by decide +kernel
theorem dX12_frame_122 : decode cX12_frame 122 = .ok (.if_icmp .ge 45, 3) := by decide +kernel
theorem dX12_frame_125 : decode cX12_frame 125 = .ok (.iload_n 3, 1) := by decide +kernel
theorem dX12_frame_126 : decode cX12_frame 126 = .ok (.aload_n 0, 1) := by decide +kernel
theorem dX12_frame_127 : decode cX12_frame 127 = .ok (.getfield 25, 3) := by decide +kernel
theorem dX12_frame_130 : decode cX12_frame 130 = .ok (.iconst 5, 1) := by decide +kernel
theorem dX12_frame_131 : decode cX12_frame 131 = .ok (.iload 4, 2) := by decide +kernel
theorem dX12_frame_133 : decode cX12_frame 133 = .ok (.imul, 1) := by decide +kernel
theorem dX12_frame_134 : decode cX12_frame 134 = .ok (.iconst 2, 1) := by decide +kernel
theorem dX12_frame_135 : decode cX12_frame 135 = .ok (.iadd, 1) := by decide +kernel
theorem dX12_frame_136 : decode cX12_frame 136 = .ok (.iaload, 1) := by decide +kernel
theorem dX12_frame_137 : decode cX12_frame 137 = .ok (.iload_n 1, 1) := by decide +kernel
theorem dX12_frame_138 : decode cX12_frame 138 = .ok (.if_icmp .ne 20, 3) := by decide +kernel
theorem dX12_frame_141 : decode cX12_frame 141 = .ok (.iload_n 2, 1) := by decide +kernel
theorem dX12_frame_142 : decode cX12_frame 142 = .ok (.ifCond .eq 12, 3) := by decide +kernel
theorem dX12_frame_145 : decode cX12_frame 145 = .ok (.aload_n 0, 1) := by decide +kernel
theorem dX12_frame_146 : decode cX12_frame 146 = .ok (.iload 4, 2) := by decide +kernel
theorem dX12_frame_148 : decode cX12_frame 148 = .ok (.invokevirtual 178, 3) := by decide +kernel
theorem dX12_frame_151 : decode cX12_frame 151 = .ok (.ifCond .ne 7, 3) := by decide +kernel
theorem dX12_frame_154 : decode cX12_frame 154 = .ok (.iconst 1, 1) := by decide +kernel
theorem dX12_frame_155 : decode cX12_frame 155 = .ok (.goto 4, 3) := by decide +kernel
theorem dX12_frame_158 : decode cX12_frame 158 = .ok (.iconst 0, 1) := by decide +kernel
theorem dX12_frame_159 : decode cX12_frame 159 = .ok (.iadd, 1) := by decide +kernel
theorem dX12_frame_160 : decode cX12_frame 160 = .ok (.istore_n 3, 1) := by decide +kernel
theorem dX12_frame_161 : decode cX12_frame 161 = .ok (.iinc 4 1, 3) := by decide +kernel
theorem dX12_frame_164 : decode cX12_frame 164 = .ok (.goto (-53), 3) := by decide +kernel
theorem dX12_frame_167 : decode cX12_frame 167 = .ok (.aload_n 0, 1) := by decide +kernel
theorem dX12_frame_168 : decode cX12_frame 168 = .ok (.getfield 22, 3) := by decide +kernel
theorem dX12_frame_171 : decode cX12_frame 171 = .ok (.iconst 0, 1) := by decide +kernel
theorem dX12_frame_172 : decode cX12_frame 172 = .ok (.iaload, 1) := by decide +kernel
theorem dX12_frame_173 : decode cX12_frame 173 = .ok (.iload_n 1, 1) := by decide +kernel
theorem dX12_frame_174 : decode cX12_frame 174 = .ok (.imul, 1) := by decide +kernel
theorem dX12_frame_175 : decode cX12_frame 175 = .ok (.istore 4, 2) := by decide +kernel
theorem dX12_frame_177 : decode cX12_frame 177 = .ok (.iload 4, 2) := by decide +kernel
theorem dX12_frame_179 : decode cX12_frame 179 = .ok (.aload_n 0, 1) := by decide +kernel
theorem dX12_frame_180 : decode cX12_frame 180 = .ok (.getfield 22, 3) := by decide +kernel
theorem dX12_frame_183 : decode cX12_frame 183 = .ok (.iconst 0, 1) := by decide +kernel
theorem dX12_frame_184 : decode cX12_frame 184 = .ok (.iaload, 1) := by decide +kernel
theorem dX12_frame_185 : decode cX12_frame 185 = .ok (.iload_n 1, 1) := by decide +kernel
theorem dX12_frame_186 : decode cX12_frame 186 = .ok (.iconst 1, 1) := by decide +kernel
theorem dX12_frame_187 : decode cX12_frame 187 = .ok (.iadd, 1) := by decide +kernel
theorem dX12_frame_188 : decode cX12_frame 188 = .ok (.imul, 1) := by decide +kernel
theorem dX12_frame_189 : decode cX12_frame 189 = .ok (.if_icmp .ge 45, 3) := by decide +kernel
theorem dX12_frame_192 : decode cX12_frame 192 = .ok (.iload_n 2, 1) := by decide +kernel
theorem dX12_frame_193 : decode cX12_frame 193 = .ok (.iconst 1, 1) := by decide +kernel
theorem dX12_frame_194 : decode cX12_frame 194 = .ok (.if_icmp .le 40, 3) := by decide +kernel
theorem dX12_frame_197 : decode cX12_frame 197 = .ok (.iload_n 3, 1) := by decide +kernel
theorem dX12_frame_198 : decode cX12_frame 198 = .ok (.iload_n 2, 1) := by decide +kernel
theorem dX12_frame_199 : decode cX12_frame 199 = .ok (.iconst 2, 1) := by decide +kernel
theorem dX12_frame_200 : decode cX12_frame 200 = .ok (.if_icmp .ne 12, 3) := by decide +kernel
theorem dX12_frame_203 : decode cX12_frame 203 = .ok (.aload_n 0, 1) := by decide +kernel
theorem dX12_frame_204 : decode cX12_frame 204 = .ok (.iload 4, 2) := by decide +kernel
theorem dX12_frame_206 : decode cX12_frame 206 = .ok (.invokevirtual 326, 3) := by decide +kernel
theorem dX12_frame_209 : decode cX12_frame 209 = .ok (.goto 17, 3) := by decide +kernel
theorem dX12_frame_212 : decode cX12_frame 212 = .ok (.aload_n 0, 1) := by decide +kernel
theorem dX12_frame_213 : decode cX12_frame 213 = .ok (.iload 4, 2) := by decide +kernel
theorem dX12_frame_215 : decode cX12_frame 215 = .ok (.invokevirtual 201, 3) := by decide +kernel
theorem dX12_frame_218 : decode cX12_frame 218 = .ok (.ifCond .eq 7, 3) := by decide +kernel
theorem dX12_frame_221 : decode cX12_frame 221 = .ok (.iconst 1, 1) := by decide +kernel
theorem dX12_frame_222 : decode cX12_frame 222 = .ok (.goto 4, 3) := by decide +kernel
theorem dX12_frame_225 : decode cX12_frame 225 = .ok (.iconst 0, 1) := by decide +kernel
theorem dX12_frame_226 : decode cX12_frame 226 = .ok (.iadd, 1) := by decide +kernel
theorem dX12_frame_227 : decode cX12_frame 227 = .ok (.istore_n 3, 1) := by decide +kernel
theorem dX12_frame_228 : decode cX12_frame 228 = .ok (.iinc 4 1, 3) := by decide +kernel
theorem dX12_frame_231 : decode cX12_frame 231 = .ok (.goto (-54), 3) := by decide +kernel
theorem dX12_frame_234 : decode cX12_frame 234 = .ok (.iload_n 3, 1) := by decide +kernel
theorem dX12_frame_235 : decode cX12_frame 235 = .ok (.ireturn, 1) := by decide +kernel
set_option maxRecDepth 20000 in
theorem ggX12_senders_X12_isField : GoodIn wsX12_senders wsX12_isField := goodIn_r _ [6, 1, 18, 19, 20, 21, 22, 23, 24, 25, 26, 27, 28, 29, 30, 31, 32, 33, 34, 35, 36, 37, 38, 39, 40, 41, 42, 43, 44, 45, 46, 47] (by decide +kernel) (by decide +kernel)
set_option maxRecDepth 20000 in
theorem gX12_senders_X12_isField : GoodIn wsX12_senders (wsV RX12 151 RX12 yX12_isField wsX12_isField) := goodIn_app (goodIn_of _ (by decide +kernel)) ggX12_senders_X12_isField
set_option maxRecDepth 20000 in
theorem ggX12_senders_X12_in : GoodIn wsX12_senders wsX12_in := goodIn_r _ [9] (by decide +kernel) (by decide +kernel)
set_option maxRecDepth 20000 in
theorem gX12_senders_X12_in : GoodIn wsX12_senders (va_wsS RX12 76 yX12_in wsX12_in) := goodIn_app (goodIn_of _ (by decide +kernel)) ggX12_senders_X12_in
set_option maxRecDepth 20000 in
theorem ggX12_senders_X12_copyMany : GoodIn wsX12_senders wsX12_copyMany := goodIn_r _ [13, 14, 15, 16, 5, 17, 18, 19, 20, 21, 22, 23, 24, 25, 26, 27, 28, 29, 30, 31, 32, 33, 34, 35, 36, 37, 38, 39, 40, 41, 42, 43, 44, 45, 46, 47] (by decide +kernel) (by decide +kernel)
set_option maxRecDepth 20000 in
theorem gX12_senders_X12_copyMany : GoodIn wsX12_senders (wsV RX12 270 RX12 yX12_copyMany wsX12_copyMany) := goodIn_app (goodIn_of _ (by decide +kernel)) ggX12_senders_X12_copyMany
theorem dX12_senders_0 : decode cX12_senders 0 = .ok (.aload_n 0, 1) := by decide +kernel
theorem dX12_senders_1 : decode cX12_senders 1 = .ok (.invokevirtual 151, 3) := by decide +kernel
theorem dX12_senders_4 : decode cX12_senders 4 = .ok (.ifCond .eq 13, 3) := by decide +kernel
theorem dX12_senders_7 : decode cX12_senders 7 = .ok (.iload_n 1, 1) := by decide +kernel
theorem dX12_senders_8 : decode cX12_senders 8 = .ok (.iconst 0, 1) := by decide +kernel
theorem dX12_senders_9 : decode cX12_senders 9 = .ok (.bipush 24, 2) := by decide +kernel
theorem dX12_senders_11 : decode cX12_senders 11 = .ok (.invokestatic 76, 3) := by decide +kernel
theorem dX12_senders_14 : decode cX12_senders 14 = .ok (.ifCond .ne 5, 3) := by decide +kernel
theorem dX12_senders_17 : decode cX12_senders 17 = .ok (.iconst (-1), 1) := by decide +kernel
theorem dX12_senders_18 : decode cX12_senders 18 = .ok (.ireturn, 1) := by decide +kernel
theorem dX12_senders_19 : decode cX12_senders 19 = .ok (.iconst 0, 1) := by decide +kernel
theorem dX12_senders_20 : decode cX12_senders 20 = .ok (.istore_n 2, 1) := by decide +kernel
theorem dX12_senders_21 : decode cX12_senders 21 = .ok (.iconst 0, 1) := by decide +kernel
theorem dX12_senders_22 : decode cX12_senders 22 = .ok (.istore_n 3, 1) := by decide +kernel
theorem dX12_senders_23 : decode cX12_senders 23 = .ok (.iload_n 3, 1) := by decide +kernel
theorem dX12_senders_24 : decode cX12_senders 24 = .ok (.aload_n 0, 1) := by decide +kernel
theorem dX12_senders_25 : decode cX12_senders 25 = .ok (.getfield 148, 3) := by decide +kernel
theorem dX12_senders_28 : decode cX12_senders 28 = .ok (.if_icmp .ge 26, 3) := by decide +kernel
theorem dX12_senders_31 : decode cX12_senders 31 = .ok (.iload_n 2, 1) := by decide +kernel
theorem dX12_senders_32 : decode cX12_senders 32 = .ok (.aload_n 0, 1) := by decide +kernel
theorem dX12_senders_33 : decode cX12_senders 33 = .ok (.iload_n 3, 1) := by decide +kernel
theorem dX12_senders_34 : decode cX12_senders 34 = .ok (.invokevirtual 270, 3) := by decide +kernel
theorem dX12_senders_37 : decode cX12_senders 37 = .ok (.iload_n 1, 1) := by decide +kernel
theorem dX12_senders_38 : decode cX12_senders 38 = .ok (.if_icmp .ne 7, 3) := by decide +kernel
theorem dX12_senders_41 : decode cX12_senders 41 = .ok (.iconst 1, 1) := by decide +kernel
theorem dX12_senders_42 : decode cX12_senders 42 = .ok (.goto 4, 3) := by decide +kernel
theorem dX12_senders_45 : decode cX12_senders 45 = .ok (.iconst 0, 1) := by decide +kernel
theorem dX12_senders_46 : decode cX12_senders 46 = .ok (.iadd, 1) := by decide +kernel
theorem dX12_senders_47 : decode cX12_senders 47 = .ok (.istore_n 2, 1) := by decide +kernel
theorem dX12_senders_48 : decode cX12_senders 48 = .ok (.iinc 3 1, 3) := by decide +kernel
theorem dX12_senders_51 : decode cX12_senders 51 = .ok (.goto (-28), 3) := by decide +kernel
theorem dX12_senders_54 : decode cX12_senders 54 = .ok (.iload_n 2, 1) := by decide +kernel
theorem dX12_senders_55 : decode cX12_senders 55 = .ok (.ireturn, 1) := by decide +kernel
set_option maxRecDepth 20000 in
theorem ggX12_touches_X12_bits : GoodIn wsX12_touches wsX12_bits := goodIn_r _ [5] (by decide +kernel) (by decide +kernel)
set_option maxRecDepth 20000 in
theorem gX12_touches_X12_bits : GoodIn wsX12_touches (va_wsS RX12 157 yX12_bits wsX12_bits) := goodIn_app (goodIn_of _ (by decide +kernel)) ggX12_touches_X12_bits
theorem dX12_touches_0 : decode cX12_touches 0 = .ok (.aload_n 0, 1) := by decide +kernel
theorem dX12_touches_1 : decode cX12_touches 1 = .ok (.getfield 37, 3) := by decide +kernel
theorem dX12_touches_4 : decode cX12_touches 4 = .ok (.bipush 10, 2) := by decide +kernel
theorem dX12_touches_6 : decode cX12_touches 6 = .ok (.iload_n 1, 1) := by decide +kernel
theorem dX12_touches_7 : decode cX12_touches 7 = .ok (.iadd, 1) := by decide +kernel
theorem dX12_touches_8 : decode cX12_touches 8 = .ok (.iaload, 1) := by decide +kernel
theorem dX12_touches_9 : decode cX12_touches 9 = .ok (.aload_n 0, 1) := by decide +kernel
theorem dX12_touches_10 : decode cX12_touches 10 = .ok (.getfield 37, 3) := by decide +kernel
theorem dX12_touches_13 : decode cX12_touches 13 = .ok (.bipush 10, 2) := by decide +kernel
theorem dX12_touches_15 : decode cX12_touches 15 = .ok (.iload_n 2, 1) := by decide +kernel
theorem dX12_touches_16 : decode cX12_touches 16 = .ok (.iadd, 1) := by decide +kernel
theorem dX12_touches_17 : decode cX12_touches 17 = .ok (.iaload, 1) := by decide +kernel
theorem dX12_touches_18 : decode cX12_touches 18 = .ok (.iand, 1) := by decide +kernel
theorem dX12_touches_19 : decode cX12_touches 19 = .ok (.invokestatic 157, 3) := by decide +kernel
theorem dX12_touches_22 : decode cX12_touches 22 = .ok (.aload_n 0, 1) := by decide +kernel
theorem dX12_touches_23 : decode cX12_touches 23 = .ok (.getfield 37, 3) := by decide +kernel
theorem dX12_touches_26 : decode cX12_touches 26 = .ok (.bipush 20, 2) := by decide +kernel
theorem dX12_touches_28 : decode cX12_touches 28 = .ok (.iload_n 1, 1) := by decide +kernel
theorem dX12_touches_29 : decode cX12_touches 29 = .ok (.iadd, 1) := by decide +kernel
theorem dX12_touches_30 : decode cX12_touches 30 = .ok (.iaload, 1) := by decide +kernel
theorem dX12_touches_31 : decode cX12_touches 31 = .ok (.aload_n 0, 1) := by decide +kernel
theorem dX12_touches_32 : decode cX12_touches 32 = .ok (.getfield 37, 3) := by decide +kernel
theorem dX12_touches_35 : decode cX12_touches 35 = .ok (.bipush 20, 2) := by decide +kernel
theorem dX12_touches_37 : decode cX12_touches 37 = .ok (.iload_n 2, 1) := by decide +kernel
theorem dX12_touches_38 : decode cX12_touches 38 = .ok (.iadd, 1) := by decide +kernel
theorem dX12_touches_39 : decode cX12_touches 39 = .ok (.iaload, 1) := by decide +kernel
theorem dX12_touches_40 : decode cX12_touches 40 = .ok (.iand, 1) := by decide +kernel
theorem dX12_touches_41 : decode cX12_touches 41 = .ok (.invokestatic 157, 3) := by decide +kernel
theorem dX12_touches_44 : decode cX12_touches 44 = .ok (.iadd, 1) := by decide +kernel
theorem dX12_touches_45 : decode cX12_touches 45 = .ok (.ireturn, 1) := by decide +kernel
set_option maxRecDepth 20000 in
theorem ggX12_touch_X12_isUser : GoodIn wsX12_touch wsX12_isUser := goodIn_r _ [5, 6, 7, 8, 4, 9, 22, 23, 24, 25, 26, 27, 28, 29, 30, 31, 32, 33, 34, 35, 36, 37, 38, 39, 40, 41, 42, 43, 44, 45, 46, 47, 48, 49, 50, 51] (by decide +kernel) (by decide +kernel)
set_option maxRecDepth 20000 in
theorem gX12_touch_X12_isUser : GoodIn wsX12_touch (wsV RX12 228 RX12 yX12_isUser wsX12_isUser) := goodIn_app (goodIn_of _ (by decide +kernel)) ggX12_touch_X12_isUser
set_option maxRecDepth 20000 in
theorem ggX12_touch_X12_isUnknown : GoodIn wsX12_touch wsX12_isUnknown := goodIn_r _ [13, 14, 22, 23, 24, 25, 26, 27, 28, 29, 30, 31, 32, 33, 34, 35, 36, 37, 38, 39, 40, 41, 42, 43, 44, 45, 46, 47, 48, 49, 50, 51] (by decide +kernel) (by decide +kernel)
set_option maxRecDepth 20000 in
theorem gX12_touch_X12_isUnknown : GoodIn wsX12_touch (wsV RX12 178 RX12 yX12_isUnknown wsX12_isUnknown) := goodIn_app (goodIn_of _ (by decide +kernel)) ggX12_touch_X12_isUnknown
set_option maxRecDepth 20000 in
theorem ggX12_touch_X12_touches : GoodIn wsX12_touch wsX12_touches := goodIn_r _ [18, 14, 19, 20, 4, 21, 22, 23, 24, 25, 26, 27, 28, 29, 30, 31, 32, 33, 34, 35, 36, 37, 38, 39, 40, 41, 42, 43, 44, 45, 46, 47, 48, 49, 50, 51] (by decide +kernel) (by decide +kernel)
set_option maxRecDepth 20000 in
theorem gX12_touch_X12_touches : GoodIn wsX12_touch (wsV RX12 338 RX12 yX12_touches wsX12_touches) := goodIn_app (goodIn_of _ (by decide +kernel)) ggX12_touch_X12_touches
theorem dX12_touch_0 : decode cX12_touch 0 = .ok (.aload_n 0, 1) := by decide +kernel
theorem dX12_touch_1 : decode cX12_touch 1 = .ok (.iload_n 1, 1) := by decide +kernel
theorem dX12_touch_2 : decode cX12_touch 2 = .ok (.invokevirtual 228, 3) := by decide +kernel
theorem dX12_touch_5 : decode cX12_touch 5 = .ok (.ifCond .eq 41, 3) := by decide +kernel
theorem dX12_touch_8 : decode cX12_touch 8 = .ok (.aload_n 0, 1) := by decide +kernel
theorem dX12_touch_9 : decode cX12_touch 9 = .ok (.iload_n 2, 1) := by decide +kernel
theorem dX12_touch_10 : decode cX12_touch 10 = .ok (.invokevirtual 228, 3) := by decide +kernel
theorem dX12_touch_13 : decode cX12_touch 13 = .ok (.ifCond .eq 33, 3) := by decide +kernel
theorem dX12_touch_16 : decode cX12_touch 16 = .ok (.iload_n 1, 1) := by decide +kernel
theorem dX12_touch_17 : decode cX12_touch 17 = .ok (.iload_n 2, 1) := by decide +kernel
theorem dX12_touch_18 : decode cX12_touch 18 = .ok (.if_icmp .eq 28, 3) := by decide +kernel
theorem dX12_touch_21 : decode cX12_touch 21 = .ok (.aload_n 0, 1) := by decide +kernel
theorem dX12_touch_22 : decode cX12_touch 22 = .ok (.iload_n 1, 1) := by decide +kernel
theorem dX12_touch_23 : decode cX12_touch 23 = .ok (.invokevirtual 178, 3) := by decide +kernel
theorem dX12_touch_26 : decode cX12_touch 26 = .ok (.ifCond .eq 20, 3) := by decide +kernel
theorem dX12_touch_29 : decode cX12_touch 29 = .ok (.aload_n 0, 1) := by decide +kernel
theorem dX12_touch_30 : decode cX12_touch 30 = .ok (.iload_n 2, 1) := by decide +kernel
theorem dX12_touch_31 : decode cX12_touch 31 = .ok (.invokevirtual 178, 3) := by decide +kernel
theorem dX12_touch_34 : decode cX12_touch 34 = .ok (.ifCond .eq 12, 3) := by decide +kernel
theorem dX12_touch_37 : decode cX12_touch 37 = .ok (.aload_n 0, 1) := by decide +kernel
theorem dX12_touch_38 : decode cX12_touch 38 = .ok (.iload_n 1, 1) := by decide +kernel
theorem dX12_touch_39 : decode cX12_touch 39 = .ok (.iload_n 2, 1) := by decide +kernel
theorem dX12_touch_40 : decode cX12_touch 40 = .ok (.invokevirtual 338, 3) := by decide +kernel
theorem dX12_touch_43 : decode cX12_touch 43 = .ok (.goto 4, 3) := by decide +kernel
theorem dX12_touch_46 : decode cX12_touch 46 = .ok (.iconst (-1), 1) := by decide +kernel
theorem dX12_touch_47 : decode cX12_touch 47 = .ok (.ireturn, 1) := by decide +kernel
set_option maxRecDepth 20000 in
theorem ggX12_parts_X12_unknownOnes : GoodIn wsX12_parts wsX12_unknownOnes := goodIn_r _ [6, 7, 8, 9, 5, 10, 1, 11, 12, 13, 14, 15, 16, 17, 18, 19, 30, 31, 32, 33, 34, 35, 36, 37, 38, 39, 40, 41, 42, 43, 44, 45, 46, 47, 48, 49, 50, 51, 52, 53, 54, 55, 56, 57, 58, 59] (by decide +kernel) (by decide +kernel)
set_option maxRecDepth 20000 in
theorem gX12_parts_X12_unknownOnes : GoodIn wsX12_parts (wsV RX12 332 RX12 yX12_unknownOnes wsX12_unknownOnes) := goodIn_app (goodIn_of _ (by decide +kernel)) ggX12_parts_X12_unknownOnes
set_option maxRecDepth 20000 in
theorem ggX12_parts_X12_has : GoodIn wsX12_parts wsX12_has := goodIn_r _ [22] (by decide +kernel) (by decide +kernel)
set_option maxRecDepth 20000 in
theorem gX12_parts_X12_has : GoodIn wsX12_parts (va_wsS RX12 107 yX12_has wsX12_has) := goodIn_app (goodIn_of _ (by decide +kernel)) ggX12_parts_X12_has
set_option maxRecDepth 20000 in
theorem ggX12_parts_X12_touches : GoodIn wsX12_parts wsX12_touches := goodIn_r _ [26, 19, 27, 28, 5, 29, 30, 31, 32, 33, 34, 35, 36, 37, 38, 39, 40, 41, 42, 43, 44, 45, 46, 47, 48, 49, 50, 51, 52, 53, 54, 55, 56, 57, 58, 59] (by decide +kernel) (by decide +kernel)
set_option maxRecDepth 20000 in
theorem gX12_parts_X12_touches : GoodIn wsX12_parts (wsV RX12 338 RX12 yX12_touches wsX12_touches) := goodIn_app (goodIn_of _ (by decide +kernel)) ggX12_parts_X12_touches
theorem dX12_parts_0 : decode cX12_parts 0 = .ok (.aload_n 0, 1) := by decide +kernel
theorem dX12_parts_1 : decode cX12_parts 1 = .ok (.invokevirtual 332, 3) := by decide +kernel
theorem dX12_parts_4 : decode cX12_parts 4 = .ok (.istore_n 1, 1) := by decide +kernel
theorem dX12_parts_5 : decode cX12_parts 5 = .ok (.iconst 0, 1) := by decide +kernel
theorem dX12_parts_6 : decode cX12_parts 6 = .ok (.istore_n 2, 1) := by decide +kernel
theorem dX12_parts_7 : decode cX12_parts 7 = .ok (.iload_n 1, 1) := by decide +kernel
theorem dX12_parts_8 : decode cX12_parts 8 = .ok (.ifCond .eq 111, 3) := by decide +kernel
theorem dX12_parts_11 : decode cX12_parts 11 = .ok (.iload_n 1, 1) := by decide +kernel
theorem dX12_parts_12 : decode cX12_parts 12 = .ok (.iload_n 1, 1) := by decide +kernel
theorem dX12_parts_13 : decode cX12_parts 13 = .ok (.ineg, 1) := by decide +kernel
theorem dX12_parts_14 : decode cX12_parts 14 = .ok (.iand, 1) := by decide +kernel
theorem dX12_parts_15 : decode cX12_parts 15 = .ok (.istore_n 3, 1) := by decide +kernel
theorem dX12_parts_16 : decode cX12_parts 16 = .ok (.iconst 0, 1) := by decide +kernel
theorem dX12_parts_17 : decode cX12_parts 17 = .ok (.istore 4, 2) := by decide +kernel
theorem dX12_parts_19 : decode cX12_parts 19 = .ok (.iload_n 3, 1) := by decide +kernel
theorem dX12_parts_20 : decode cX12_parts 20 = .ok (.iload 4, 2) := by decide +kernel
theorem dX12_parts_22 : decode cX12_parts 22 = .ok (.if_icmp .eq 85, 3) := by decide +kernel
theorem dX12_parts_25 : decode cX12_parts 25 = .ok (.iload_n 3, 1) := by decide +kernel
theorem dX12_parts_26 : decode cX12_parts 26 = .ok (.istore 4, 2) := by decide +kernel
theorem dX12_parts_28 : decode cX12_parts 28 = .ok (.iconst 0, 1) := by decide +kernel
theorem dX12_parts_29 : decode cX12_parts 29 = .ok (.istore 5, 2) := by decide +kernel
theorem dX12_parts_31 : decode cX12_parts 31 = .ok (.iload 5, 2) := by decide +kernel
theorem dX12_parts_33 : decode cX12_parts 33 = .ok (.aload_n 0, 1) := by decide +kernel
theorem dX12_parts_34 : decode cX12_parts 34 = .ok (.getfield 148, 3) := by decide +kernel
theorem dX12_parts_37 : decode cX12_parts 37 = .ok (.if_icmp .ge 67, 3) := by decide +kernel
theorem dX12_parts_40 : decode cX12_parts 40 = .ok (.iconst 0, 1) := by decide +kernel
theorem dX12_parts_41 : decode cX12_parts 41 = .ok (.istore 6, 2) := by decide +kernel
theorem dX12_parts_43 : decode cX12_parts 43 = .ok (.iload 6, 2) := by decide +kernel
theorem dX12_parts_45 : decode cX12_parts 45 = .ok (.aload_n 0, 1) := by decide +kernel
theorem dX12_parts_46 : decode cX12_parts 46 = .ok (.getfield 148, 3) := by decide +kernel
theorem dX12_parts_49 : decode cX12_parts 49 = .ok (.if_icmp .ge 49, 3) := by decide +kernel
theorem dX12_parts_52 : decode cX12_parts 52 = .ok (.iload_n 3, 1) := by decide +kernel
theorem dX12_parts_53 : decode cX12_parts 53 = .ok (.iload_n 3, 1) := by decide +kernel
theorem dX12_parts_54 : decode cX12_parts 54 = .ok (.iload 5, 2) := by decide +kernel
theorem dX12_parts_56 : decode cX12_parts 56 = .ok (.invokestatic 107, 3) := by decide +kernel
theorem dX12_parts_59 : decode cX12_parts 59 = .ok (.ifCond .eq 30, 3) := by decide +kernel
theorem dX12_parts_62 : decode cX12_parts 62 = .ok (.iload_n 1, 1) := by decide +kernel
theorem dX12_parts_63 : decode cX12_parts 63 = .ok (.iload 6, 2) := by decide +kernel
theorem dX12_parts_65 : decode cX12_parts 65 = .ok (.invokestatic 107, 3) := by decide +kernel
theorem dX12_parts_68 : decode cX12_parts 68 = .ok (.ifCond .eq 21, 3) := by decide +kernel
theorem dX12_parts_71 : decode cX12_parts 71 = .ok (.aload_n 0, 1) := by decide +kernel
theorem dX12_parts_72 : decode cX12_parts 72 = .ok (.iload 5, 2) := by decide +kernel
theorem dX12_parts_74 : decode cX12_parts 74 = .ok (.iload 6, 2) := by decide +kernel
theorem dX12_parts_76 : decode cX12_parts 76 = .ok (.invokevirtual 338, 3) := by decide +kernel
theorem dX12_parts_79 : decode cX12_parts 79 = .ok (.ifCond .le 10, 3) := by decide +kernel
theorem dX12_parts_82 : decode cX12_parts 82 = .ok (.iconst 1, 1) := by decide +kernel
theorem dX12_parts_83 : decode cX12_parts 83 = .ok (.iload 6, 2) := by decide +kernel
theorem dX12_parts_85 : decode cX12_parts 85 = .ok (.ishl, 1) := by decide +kernel
theorem dX12_parts_86 : decode cX12_parts 86 = .ok (.goto 4, 3) := by decide +kernel
theorem dX12_parts_89 : decode cX12_parts 89 = .ok (.iconst 0, 1) := by decide +kernel
theorem dX12_parts_90 : decode cX12_parts 90 = .ok (.ior, 1) := by decide +kernel
theorem dX12_parts_91 : decode cX12_parts 91 = .ok (.istore_n 3, 1) := by decide +kernel
theorem dX12_parts_92 : decode cX12_parts 92 = .ok (.iinc 6 1, 3) := by decide +kernel
theorem dX12_parts_95 : decode cX12_parts 95 = .ok (.goto (-52), 3) := by decide +kernel
theorem dX12_parts_98 : decode cX12_parts 98 = .ok (.iinc 5 1, 3) := by decide +kernel
theorem dX12_parts_101 : decode cX12_parts 101 = .ok (.goto (-70), 3) := by decide +kernel
theorem dX12_parts_104 : decode cX12_parts 104 = .ok (.goto (-85), 3) := by decide +kernel
theorem dX12_parts_107 : decode cX12_parts 107 = .ok (.iload_n 1, 1) := by decide +kernel
theorem dX12_parts_108 : decode cX12_parts 108 = .ok (.iload_n 3, 1) := by decide +kernel
theorem dX12_parts_109 : decode cX12_parts 109 = .ok (.iconst (-1), 1) := by decide +kernel
theorem dX12_parts_110 : decode cX12_parts 110 = .ok (.ixor, 1) := by decide +kernel
theorem dX12_parts_111 : decode cX12_parts 111 = .ok (.iand, 1) := by decide +kernel
theorem dX12_parts_112 : decode cX12_parts 112 = .ok (.istore_n 1, 1) := by decide +kernel
theorem dX12_parts_113 : decode cX12_parts 113 = .ok (.iinc 2 1, 3) := by decide +kernel
theorem dX12_parts_116 : decode cX12_parts 116 = .ok (.goto (-109), 3) := by decide +kernel
theorem dX12_parts_119 : decode cX12_parts 119 = .ok (.iload_n 2, 1) := by decide +kernel
theorem dX12_parts_120 : decode cX12_parts 120 = .ok (.ireturn, 1) := by decide +kernel
set_option maxRecDepth 20000 in
theorem ggX12_load_X12_isField : GoodIn wsX12_load wsX12_isField := goodIn_r _ [6, 1, 15, 16, 17, 18, 19, 20, 21, 22, 23, 24, 25, 26, 27, 28, 29, 30, 31, 32, 33, 34, 35, 36, 37, 38, 39, 40, 41, 42, 43, 44] (by decide +kernel) (by decide +kernel)
set_option maxRecDepth 20000 in
theorem gX12_load_X12_isField : GoodIn wsX12_load (wsV RX12 151 RX12 yX12_isField wsX12_isField) := goodIn_app (goodIn_of _ (by decide +kernel)) ggX12_load_X12_isField
set_option maxRecDepth 20000 in
theorem ggX12_load_X12_in : GoodIn wsX12_load wsX12_in := goodIn_r _ [9] (by decide +kernel) (by decide +kernel)
set_option maxRecDepth 20000 in
theorem gX12_load_X12_in : GoodIn wsX12_load (va_wsS RX12 76 yX12_in wsX12_in) := goodIn_app (goodIn_of _ (by decide +kernel)) ggX12_load_X12_in
set_option maxRecDepth 20000 in
theorem ggX12_load_X12_slotMany : GoodIn wsX12_load wsX12_slotMany := goodIn_r _ [13, 14, 2, 3, 4, 5, 6, 1, 15, 16, 17, 18, 19, 20, 21, 22, 23, 24, 25, 26, 27, 28, 29, 30, 31, 32, 33, 34, 35, 36, 37, 38, 39, 40, 41, 42, 43, 44] (by decide +kernel) (by decide +kernel)
set_option maxRecDepth 20000 in
theorem gX12_load_X12_slotMany : GoodIn wsX12_load (wsV RX12 154 RX12 yX12_slotMany wsX12_slotMany) := goodIn_app (goodIn_of _ (by decide +kernel)) ggX12_load_X12_slotMany
theorem dX12_load_0 : decode cX12_load 0 = .ok (.aload_n 0, 1) := by decide +kernel
theorem dX12_load_1 : decode cX12_load 1 = .ok (.invokevirtual 151, 3) := by decide +kernel
theorem dX12_load_4 : decode cX12_load 4 = .ok (.ifCond .eq 28, 3) := by decide +kernel
theorem dX12_load_7 : decode cX12_load 7 = .ok (.iload_n 1, 1) := by decide +kernel
theorem dX12_load_8 : decode cX12_load 8 = .ok (.iconst 0, 1) := by decide +kernel
theorem dX12_load_9 : decode cX12_load 9 = .ok (.sipush 999, 3) := by decide +kernel
theorem dX12_load_12 : decode cX12_load 12 = .ok (.invokestatic 76, 3) := by decide +kernel
theorem dX12_load_15 : decode cX12_load 15 = .ok (.ifCond .eq 17, 3) := by decide +kernel
theorem dX12_load_18 : decode cX12_load 18 = .ok (.iload_n 1, 1) := by decide +kernel
theorem dX12_load_19 : decode cX12_load 19 = .ok (.aload_n 0, 1) := by decide +kernel
theorem dX12_load_20 : decode cX12_load 20 = .ok (.getfield 148, 3) := by decide +kernel
theorem dX12_load_23 : decode cX12_load 23 = .ok (.imul, 1) := by decide +kernel
theorem dX12_load_24 : decode cX12_load 24 = .ok (.aload_n 0, 1) := by decide +kernel
theorem dX12_load_25 : decode cX12_load 25 = .ok (.invokevirtual 154, 3) := by decide +kernel
theorem dX12_load_28 : decode cX12_load 28 = .ok (.idiv, 1) := by decide +kernel
theorem dX12_load_29 : decode cX12_load 29 = .ok (.goto 4, 3) := by decide +kernel
theorem dX12_load_32 : decode cX12_load 32 = .ok (.iconst (-1), 1) := by decide +kernel
theorem dX12_load_33 : decode cX12_load 33 = .ok (.ireturn, 1) := by decide +kernel
theorem dX12_putAside_0 : decode cX12_putAside 0 = .ok (.iconst 0, 1) := by decide +kernel
theorem dX12_putAside_1 : decode cX12_putAside 1 = .ok (.istore_n 1, 1) := by decide +kernel
theorem dX12_putAside_2 : decode cX12_putAside 2 = .ok (.iload_n 1, 1) := by decide +kernel
theorem dX12_putAside_3 : decode cX12_putAside 3 = .ok (.bipush 31, 2) := by decide +kernel
theorem dX12_putAside_5 : decode cX12_putAside 5 = .ok (.if_icmp .ge 21, 3) := by decide +kernel
theorem dX12_putAside_8 : decode cX12_putAside 8 = .ok (.aload_n 0, 1) := by decide +kernel
theorem dX12_putAside_9 : decode cX12_putAside 9 = .ok (.getfield 53, 3) := by decide +kernel
theorem dX12_putAside_12 : decode cX12_putAside 12 = .ok (.iload_n 1, 1) := by decide +kernel
theorem dX12_putAside_13 : decode cX12_putAside 13 = .ok (.aload_n 0, 1) := by decide +kernel
theorem dX12_putAside_14 : decode cX12_putAside 14 = .ok (.getfield 37, 3) := by decide +kernel
theorem dX12_putAside_17 : decode cX12_putAside 17 = .ok (.iload_n 1, 1) := by decide +kernel
theorem dX12_putAside_18 : decode cX12_putAside 18 = .ok (.iaload, 1) := by decide +kernel
theorem dX12_putAside_19 : decode cX12_putAside 19 = .ok (.iastore, 1) := by decide +kernel
theorem dX12_putAside_20 : decode cX12_putAside 20 = .ok (.iinc 1 1, 3) := by decide +kernel
theorem dX12_putAside_23 : decode cX12_putAside 23 = .ok (.goto (-21), 3) := by decide +kernel
theorem dX12_putAside_26 : decode cX12_putAside 26 = .ok (.return_, 1) := by decide +kernel
theorem dX12_bringBack_0 : decode cX12_bringBack 0 = .ok (.iconst 0, 1) := by decide +kernel
theorem dX12_bringBack_1 : decode cX12_bringBack 1 = .ok (.istore_n 1, 1) := by decide +kernel
theorem dX12_bringBack_2 : decode cX12_bringBack 2 = .ok (.iload_n 1, 1) := by decide +kernel
theorem dX12_bringBack_3 : decode cX12_bringBack 3 = .ok (.bipush 31, 2) := by decide +kernel
theorem dX12_bringBack_5 : decode cX12_bringBack 5 = .ok (.if_icmp .ge 21, 3) := by decide +kernel
theorem dX12_bringBack_8 : decode cX12_bringBack 8 = .ok (.aload_n 0, 1) := by decide +kernel
theorem dX12_bringBack_9 : decode cX12_bringBack 9 = .ok (.getfield 37, 3) := by decide +kernel
theorem dX12_bringBack_12 : decode cX12_bringBack 12 = .ok (.iload_n 1, 1) := by decide +kernel
theorem dX12_bringBack_13 : decode cX12_bringBack 13 = .ok (.aload_n 0, 1) := by decide +kernel
theorem dX12_bringBack_14 : decode cX12_bringBack 14 = .ok (.getfield 53, 3) := by decide +kernel
theorem dX12_bringBack_17 : decode cX12_bringBack 17 = .ok (.iload_n 1, 1) := by decide +kernel
theorem dX12_bringBack_18 : decode cX12_bringBack 18 = .ok (.iaload, 1) := by decide +kernel
theorem dX12_bringBack_19 : decode cX12_bringBack 19 = .ok (.iastore, 1) := by decide +kernel
theorem dX12_bringBack_20 : decode cX12_bringBack 20 = .ok (.iinc 1 1, 3) := by decide +kernel
theorem dX12_bringBack_23 : decode cX12_bringBack 23 = .ok (.goto (-21), 3) := by decide +kernel
theorem dX12_bringBack_26 : decode cX12_bringBack 26 = .ok (.return_, 1) := by decide +kernel
set_option maxRecDepth 20000 in
theorem ggX12_hasteOf_X12_putAside : GoodIn wsX12_hasteOf wsX12_putAside := goodIn_r _ [5, 6, 7, 65, 66, 67, 68, 69, 70, 71, 72, 73, 74, 75, 76, 77, 78, 79, 80, 81, 82, 83, 84, 85, 86, 87, 88, 89, 90, 91, 92, 93, 94] (by decide +kernel) (by decide +kernel)
set_option maxRecDepth 20000 in
theorem gX12_hasteOf_X12_putAside : GoodIn wsX12_hasteOf (wsV RX12 341 RX12 yX12_putAside wsX12_putAside) := goodIn_app (goodIn_of _ (by decide +kernel)) ggX12_hasteOf_X12_putAside
set_option maxRecDepth 20000 in
theorem ggX12_hasteOf_X12_isUnknown : GoodIn wsX12_hasteOf wsX12_isUnknown := goodIn_r _ [11, 7, 65, 66, 67, 68, 69, 70, 71, 72, 73, 74, 75, 76, 77, 78, 79, 80, 81, 82, 83, 84, 85, 86, 87, 88, 89, 90, 91, 92, 93, 94] (by decide +kernel) (by decide +kernel)
set_option maxRecDepth 20000 in
theorem gX12_hasteOf_X12_isUnknown : GoodIn wsX12_hasteOf (wsV RX12 178 RX12 yX12_isUnknown wsX12_isUnknown) := goodIn_app (goodIn_of _ (by decide +kernel)) ggX12_hasteOf_X12_isUnknown
set_option maxRecDepth 20000 in
theorem ggX12_hasteOf_X12_roundNow : GoodIn wsX12_hasteOf wsX12_roundNow := goodIn_r _ [15, 16, 17, 7, 18, 19, 20, 4, 21, 22, 23, 24, 25, 26, 27, 28, 29, 30, 31, 32, 33, 34, 35, 36, 8, 9, 10, 11, 37, 38, 39, 40, 41, 42, 43, 44, 45, 46, 47, 48, 49, 50, 51, 52, 53, 54, 55, 56, 57, 58, 59, 60, 65, 66, 67, 68, 69, 70, 71, 72, 73, 74, 75, 76, 77, 78, 79, 80, 81, 82, 83, 84, 85, 86, 87, 88, 89, 90, 91, 92, 93, 94] (by decide +kernel) (by decide +kernel)
set_option maxRecDepth 20000 in
theorem gX12_hasteOf_X12_roundNow : GoodIn wsX12_hasteOf (wsV RX12 216 RX12 yX12_roundNow wsX12_roundNow) := goodIn_app (goodIn_of _ (by decide +kernel)) ggX12_hasteOf_X12_roundNow
set_option maxRecDepth 20000 in
theorem ggX12_hasteOf_X12_bringBack : GoodIn wsX12_hasteOf wsX12_bringBack := goodIn_r _ [64, 7, 6, 65, 66, 67, 68, 69, 70, 71, 72, 73, 74, 75, 76, 77, 78, 79, 80, 81, 82, 83, 84, 85, 86, 87, 88, 89, 90, 91, 92, 93, 94] (by decide +kernel) (by decide +kernel)
set_option maxRecDepth 20000 in
theorem gX12_hasteOf_X12_bringBack : GoodIn wsX12_hasteOf (wsV RX12 344 RX12 yX12_bringBack wsX12_bringBack) := goodIn_app (goodIn_of _ (by decide +kernel)) ggX12_hasteOf_X12_bringBack
theorem dX12_hasteOf_0 : decode cX12_hasteOf 0 = .ok (.aload_n 0, 1) := by decide +kernel
theorem dX12_hasteOf_1 : decode cX12_hasteOf 1 = .ok (.invokevirtual 341, 3) := by decide +kernel
theorem dX12_hasteOf_4 : decode cX12_hasteOf 4 = .ok (.iconst 0, 1) := by decide +kernel
theorem dX12_hasteOf_5 : decode cX12_hasteOf 5 = .ok (.istore_n 2, 1) := by decide +kernel
theorem dX12_hasteOf_6 : decode cX12_hasteOf 6 = .ok (.aload_n 0, 1) := by decide +kernel
theorem dX12_hasteOf_7 : decode cX12_hasteOf 7 = .ok (.iload_n 1, 1) := by decide +kernel
theorem dX12_hasteOf_8 : decode cX12_hasteOf 8 = .ok (.invokevirtual 178, 3) := by decide +kernel
theorem dX12_hasteOf_11 : decode cX12_hasteOf 11 = .ok (.ifCond .eq 16, 3) := by decide +kernel
theorem dX12_hasteOf_14 : decode cX12_hasteOf 14 = .ok (.aload_n 0, 1) := by decide +kernel
theorem dX12_hasteOf_15 : decode cX12_hasteOf 15 = .ok (.invokevirtual 216, 3) := by decide +kernel
theorem dX12_hasteOf_18 : decode cX12_hasteOf 18 = .ok (.ifCond .le 9, 3) := by decide +kernel
theorem dX12_hasteOf_21 : decode cX12_hasteOf 21 = .ok (.iinc 2 1, 3) := by decide +kernel
theorem dX12_hasteOf_24 : decode cX12_hasteOf 24 = .ok (.goto (-18), 3) := by decide +kernel
theorem dX12_hasteOf_27 : decode cX12_hasteOf 27 = .ok (.aload_n 0, 1) := by decide +kernel
theorem dX12_hasteOf_28 : decode cX12_hasteOf 28 = .ok (.iload_n 1, 1) := by decide +kernel
theorem dX12_hasteOf_29 : decode cX12_hasteOf 29 = .ok (.invokevirtual 178, 3) := by decide +kernel
theorem dX12_hasteOf_32 : decode cX12_hasteOf 32 = .ok (.ifCond .ne 7, 3) := by decide +kernel
theorem dX12_hasteOf_35 : decode cX12_hasteOf 35 = .ok (.iconst 1, 1) := by decide +kernel
theorem dX12_hasteOf_36 : decode cX12_hasteOf 36 = .ok (.goto 4, 3) := by decide +kernel
theorem dX12_hasteOf_39 : decode cX12_hasteOf 39 = .ok (.iconst 0, 1) := by decide +kernel
theorem dX12_hasteOf_40 : decode cX12_hasteOf 40 = .ok (.istore_n 3, 1) := by decide +kernel
theorem dX12_hasteOf_41 : decode cX12_hasteOf 41 = .ok (.aload_n 0, 1) := by decide +kernel
theorem dX12_hasteOf_42 : decode cX12_hasteOf 42 = .ok (.invokevirtual 344, 3) := by decide +kernel
theorem dX12_hasteOf_45 : decode cX12_hasteOf 45 = .ok (.iload_n 3, 1) := by decide +kernel
theorem dX12_hasteOf_46 : decode cX12_hasteOf 46 = .ok (.ifCond .eq 7, 3) := by decide +kernel
theorem dX12_hasteOf_49 : decode cX12_hasteOf 49 = .ok (.iload_n 2, 1) := by decide +kernel
theorem dX12_hasteOf_50 : decode cX12_hasteOf 50 = .ok (.goto 4, 3) := by decide +kernel
theorem dX12_hasteOf_53 : decode cX12_hasteOf 53 = .ok (.iconst (-1), 1) := by decide +kernel
theorem dX12_hasteOf_54 : decode cX12_hasteOf 54 = .ok (.ireturn, 1) := by decide +kernel
set_option maxRecDepth 20000 in
theorem ggX12_solved_X12_isField : GoodIn wsX12_solved wsX12_isField := goodIn_r _ [5, 6, 79, 80, 81, 82, 83, 84, 85, 86, 87, 88, 89, 90, 91, 92, 93, 94, 95, 96, 97, 98, 99, 100, 101, 102, 103, 104, 105, 106, 107, 108] (by decide +kernel) (by decide +kernel)
set_option maxRecDepth 20000 in
theorem gX12_solved_X12_isField : GoodIn wsX12_solved (wsV RX12 151 RX12 yX12_isField wsX12_isField) := goodIn_app (goodIn_of _ (by decide +kernel)) ggX12_solved_X12_isField
set_option maxRecDepth 20000 in
theorem ggX12_solved_X12_in : GoodIn wsX12_solved wsX12_in := goodIn_r _ [9] (by decide +kernel) (by decide +kernel)
set_option maxRecDepth 20000 in
theorem gX12_solved_X12_in : GoodIn wsX12_solved (va_wsS RX12 76 yX12_in wsX12_in) := goodIn_app (goodIn_of _ (by decide +kernel)) ggX12_solved_X12_in
set_option maxRecDepth 20000 in
theorem ggX12_solved_X12_putAside : GoodIn wsX12_solved wsX12_putAside := goodIn_r _ [13, 14, 15, 79, 80, 81, 82, 83, 84, 85, 86, 87, 88, 89, 90, 91, 92, 93, 94, 95, 96, 97, 98, 99, 100, 101, 102, 103, 104, 105, 106, 107, 108] (by decide +kernel) (by decide +kernel)
set_option maxRecDepth 20000 in
theorem gX12_solved_X12_putAside : GoodIn wsX12_solved (wsV RX12 341 RX12 yX12_putAside wsX12_putAside) := goodIn_app (goodIn_of _ (by decide +kernel)) ggX12_solved_X12_putAside
set_option maxRecDepth 20000 in
theorem ggX12_solved_X12_solveNow : GoodIn wsX12_solved wsX12_solveNow := goodIn_r _ [19, 20, 21, 22, 4, 23, 6, 24, 15, 25, 26, 27, 28, 29, 1, 2, 3, 5, 30, 31, 32, 33, 34, 35, 36, 37, 38, 39, 40, 41, 42, 43, 44, 45, 46, 47, 48, 49, 50, 51, 52, 53, 54, 55, 56, 57, 58, 59, 60, 61, 62, 63, 64, 65, 66, 67, 79, 80, 81, 82, 83, 84, 85, 86, 87, 88, 89, 90, 91, 92, 93, 94, 95, 96, 97, 98, 99, 100, 101, 102, 103, 104, 105, 106, 107, 108] (by decide +kernel) (by decide +kernel)
set_option maxRecDepth 20000 in
theorem gX12_solved_X12_solveNow : GoodIn wsX12_solved (wsV RX12 347 RX12 yX12_solveNow wsX12_solveNow) := goodIn_app (goodIn_of _ (by decide +kernel)) ggX12_solved_X12_solveNow
set_option maxRecDepth 20000 in
theorem ggX12_solved_X12_knownSet : GoodIn wsX12_solved wsX12_knownSet := goodIn_r _ [71, 6, 40, 41, 42, 4, 43, 15, 79, 80, 81, 82, 83, 84, 85, 86, 87, 88, 89, 90, 91, 92, 93, 94, 95, 96, 97, 98, 99, 100, 101, 102, 103, 104, 105, 106, 107, 108] (by decide +kernel) (by decide +kernel)
set_option maxRecDepth 20000 in
theorem gX12_solved_X12_knownSet : GoodIn wsX12_solved (wsV RX12 213 RX12 yX12_knownSet wsX12_knownSet) := goodIn_app (goodIn_of _ (by decide +kernel)) ggX12_solved_X12_knownSet
set_option maxRecDepth 20000 in
theorem ggX12_solved_X12_bringBack : GoodIn wsX12_solved wsX12_bringBack := goodIn_r _ [75, 15, 14, 79, 80, 81, 82, 83, 84, 85, 86, 87, 88, 89, 90, 91, 92, 93, 94, 95, 96, 97, 98, 99, 100, 101, 102, 103, 104, 105, 106, 107, 108] (by decide +kernel) (by decide +kernel)
set_option maxRecDepth 20000 in
theorem gX12_solved_X12_bringBack : GoodIn wsX12_solved (wsV RX12 344 RX12 yX12_bringBack wsX12_bringBack) := goodIn_app (goodIn_of _ (by decide +kernel)) ggX12_solved_X12_bringBack
set_option maxRecDepth 20000 in
theorem ggX12_solved_X12_bits : GoodIn wsX12_solved wsX12_bits := goodIn_r _ [78] (by decide +kernel) (by decide +kernel)
set_option maxRecDepth 20000 in
theorem gX12_solved_X12_bits : GoodIn wsX12_solved (va_wsS RX12 157 yX12_bits wsX12_bits) := goodIn_app (goodIn_of _ (by decide +kernel)) ggX12_solved_X12_bits
theorem dX12_solved_0 : decode cX12_solved 0 = .ok (.aload_n 0, 1) := by decide +kernel
theorem dX12_solved_1 : decode cX12_solved 1 = .ok (.invokevirtual 151, 3) := by decide +kernel
theorem dX12_solved_4 : decode cX12_solved 4 = .ok (.ifCond .eq 12, 3) := by decide +kernel
theorem dX12_solved_7 : decode cX12_solved 7 = .ok (.iload_n 1, 1) := by decide +kernel
theorem dX12_solved_8 : decode cX12_solved 8 = .ok (.iconst 0, 1) := by decide +kernel
theorem dX12_solved_9 : decode cX12_solved 9 = .ok (.iconst 2, 1) := by decide +kernel
theorem dX12_solved_10 : decode cX12_solved 10 = .ok (.invokestatic 76, 3) := by decide +kernel
theorem dX12_solved_13 : decode cX12_solved 13 = .ok (.ifCond .ne 5, 3) := by decide +kernel
theorem dX12_solved_16 : decode cX12_solved 16 = .ok (.iconst (-1), 1) := by decide +kernel
theorem dX12_solved_17 : decode cX12_solved 17 = .ok (.ireturn, 1) := by decide +kernel
theorem dX12_solved_18 : decode cX12_solved 18 = .ok (.aload_n 0, 1) := by decide +kernel
theorem dX12_solved_19 : decode cX12_solved 19 = .ok (.invokevirtual 341, 3) := by decide +kernel
theorem dX12_solved_22 : decode cX12_solved 22 = .ok (.aload_n 0, 1) := by decide +kernel
theorem dX12_solved_23 : decode cX12_solved 23 = .ok (.invokevirtual 347, 3) := by decide +kernel
theorem dX12_solved_26 : decode cX12_solved 26 = .ok (.istore_n 2, 1) := by decide +kernel
theorem dX12_solved_27 : decode cX12_solved 27 = .ok (.aload_n 0, 1) := by decide +kernel
theorem dX12_solved_28 : decode cX12_solved 28 = .ok (.invokevirtual 213, 3) := by decide +kernel
theorem dX12_solved_31 : decode cX12_solved 31 = .ok (.istore_n 3, 1) := by decide +kernel
theorem dX12_solved_32 : decode cX12_solved 32 = .ok (.aload_n 0, 1) := by decide +kernel
theorem dX12_solved_33 : decode cX12_solved 33 = .ok (.invokevirtual 344, 3) := by decide +kernel
theorem dX12_solved_36 : decode cX12_solved 36 = .ok (.iload_n 1, 1) := by decide +kernel
theorem dX12_solved_37 : decode cX12_solved 37 = .ok (.ifCond .ne 10, 3) := by decide +kernel
theorem dX12_solved_40 : decode cX12_solved 40 = .ok (.iload_n 3, 1) := by decide +kernel
theorem dX12_solved_41 : decode cX12_solved 41 = .ok (.invokestatic 157, 3) := by decide +kernel
theorem dX12_solved_44 : decode cX12_solved 44 = .ok (.goto 13, 3) := by decide +kernel
theorem dX12_solved_47 : decode cX12_solved 47 = .ok (.iload_n 1, 1) := by decide +kernel
theorem dX12_solved_48 : decode cX12_solved 48 = .ok (.iconst 1, 1) := by decide +kernel
theorem dX12_solved_49 : decode cX12_solved 49 = .ok (.if_icmp .ne 7, 3) := by decide +kernel
theorem dX12_solved_52 : decode cX12_solved 52 = .ok (.iload_n 3, 1) := by decide +kernel
theorem dX12_solved_53 : decode cX12_solved 53 = .ok (.goto 4, 3) := by decide +kernel
theorem dX12_solved_56 : decode cX12_solved 56 = .ok (.iload_n 2, 1) := by decide +kernel
theorem dX12_solved_57 : decode cX12_solved 57 = .ok (.ireturn, 1) := by decide +kernel
set_option maxRecDepth 20000 in
theorem ggX12_ahead__X12_isField : GoodIn wsX12_ahead_ wsX12_isField := goodIn_r _ [5, 6, 72, 73, 74, 75, 76, 77, 78, 79, 80, 81, 82, 83, 84, 85, 86, 87, 88, 89, 90, 91, 92, 93, 94, 95, 96, 97, 98, 99, 100, 101] (by decide +kernel) (by decide +kernel)
set_option maxRecDepth 20000 in
theorem gX12_ahead__X12_isField : GoodIn wsX12_ahead_ (wsV RX12 151 RX12 yX12_isField wsX12_isField) := goodIn_app (goodIn_of _ (by decide +kernel)) ggX12_ahead__X12_isField
set_option maxRecDepth 20000 in
theorem ggX12_ahead__X12_in : GoodIn wsX12_ahead_ wsX12_in := goodIn_r _ [9] (by decide +kernel) (by decide +kernel)
set_option maxRecDepth 20000 in
theorem gX12_ahead__X12_in : GoodIn wsX12_ahead_ (va_wsS RX12 76 yX12_in wsX12_in) := goodIn_app (goodIn_of _ (by decide +kernel)) ggX12_ahead__X12_in
set_option maxRecDepth 20000 in
theorem ggX12_ahead__X12_putAside : GoodIn wsX12_ahead_ wsX12_putAside := goodIn_r _ [13, 14, 15, 72, 73, 74, 75, 76, 77, 78, 79, 80, 81, 82, 83, 84, 85, 86, 87, 88, 89, 90, 91, 92, 93, 94, 95, 96, 97, 98, 99, 100, 101] (by decide +kernel) (by decide +kernel)
set_option maxRecDepth 20000 in
theorem gX12_ahead__X12_putAside : GoodIn wsX12_ahead_ (wsV RX12 341 RX12 yX12_putAside wsX12_putAside) := goodIn_app (goodIn_of _ (by decide +kernel)) ggX12_ahead__X12_putAside
set_option maxRecDepth 20000 in
theorem ggX12_ahead__X12_roundNow : GoodIn wsX12_ahead_ wsX12_roundNow := goodIn_r _ [19, 6, 20, 15, 21, 22, 23, 4, 24, 25, 1, 2, 3, 5, 26, 27, 28, 29, 30, 31, 32, 33, 34, 35, 36, 37, 38, 39, 40, 41, 42, 43, 44, 45, 46, 47, 48, 49, 50, 51, 52, 53, 54, 55, 56, 57, 58, 59, 60, 61, 62, 63, 72, 73, 74, 75, 76, 77, 78, 79, 80, 81, 82, 83, 84, 85, 86, 87, 88, 89, 90, 91, 92, 93, 94, 95, 96, 97, 98, 99, 100, 101] (by decide +kernel) (by decide +kernel)
set_option maxRecDepth 20000 in
theorem gX12_ahead__X12_roundNow : GoodIn wsX12_ahead_ (wsV RX12 216 RX12 yX12_roundNow wsX12_roundNow) := goodIn_app (goodIn_of _ (by decide +kernel)) ggX12_ahead__X12_roundNow
set_option maxRecDepth 20000 in
theorem ggX12_ahead__X12_knownSet : GoodIn wsX12_ahead_ wsX12_knownSet := goodIn_r _ [67, 6, 36, 37, 38, 4, 39, 15, 72, 73, 74, 75, 76, 77, 78, 79, 80, 81, 82, 83, 84, 85, 86, 87, 88, 89, 90, 91, 92, 93, 94, 95, 96, 97, 98, 99, 100, 101] (by decide +kernel) (by decide +kernel)
set_option maxRecDepth 20000 in
theorem gX12_ahead__X12_knownSet : GoodIn wsX12_ahead_ (wsV RX12 213 RX12 yX12_knownSet wsX12_knownSet) := goodIn_app (goodIn_of _ (by decide +kernel)) ggX12_ahead__X12_knownSet
set_option maxRecDepth 20000 in
theorem ggX12_ahead__X12_bringBack : GoodIn wsX12_ahead_ wsX12_bringBack := goodIn_r _ [71, 15, 14, 72, 73, 74, 75, 76, 77, 78, 79, 80, 81, 82, 83, 84, 85, 86, 87, 88, 89, 90, 91, 92, 93, 94, 95, 96, 97, 98, 99, 100, 101] (by decide +kernel) (by decide +kernel)
set_option maxRecDepth 20000 in
theorem gX12_ahead__X12_bringBack : GoodIn wsX12_ahead_ (wsV RX12 344 RX12 yX12_bringBack wsX12_bringBack) := goodIn_app (goodIn_of _ (by decide +kernel)) ggX12_ahead__X12_bringBack
theorem dX12_ahead__0 : decode cX12_ahead_ 0 = .ok (.aload_n 0, 1) := by decide +kernel
theorem dX12_ahead__1 : decode cX12_ahead_ 1 = .ok (.invokevirtual 151, 3) := by decide +kernel
theorem dX12_ahead__4 : decode cX12_ahead_ 4 = .ok (.ifCond .eq 13, 3) := by decide +kernel
theorem dX12_ahead__7 : decode cX12_ahead_ 7 = .ok (.iload_n 1, 1) := by decide +kernel
theorem dX12_ahead__8 : decode cX12_ahead_ 8 = .ok (.iconst 0, 1) := by decide +kernel
theorem dX12_ahead__9 : decode cX12_ahead_ 9 = .ok (.bipush 20, 2) := by decide +kernel
theorem dX12_ahead__11 : decode cX12_ahead_ 11 = .ok (.invokestatic 76, 3) := by decide +kernel
theorem dX12_ahead__14 : decode cX12_ahead_ 14 = .ok (.ifCond .ne 5, 3) := by decide +kernel
theorem dX12_ahead__17 : decode cX12_ahead_ 17 = .ok (.iconst (-1), 1) := by decide +kernel
theorem dX12_ahead__18 : decode cX12_ahead_ 18 = .ok (.ireturn, 1) := by decide +kernel
theorem dX12_ahead__19 : decode cX12_ahead_ 19 = .ok (.aload_n 0, 1) := by decide +kernel
theorem dX12_ahead__20 : decode cX12_ahead_ 20 = .ok (.invokevirtual 341, 3) := by decide +kernel
theorem dX12_ahead__23 : decode cX12_ahead_ 23 = .ok (.iconst 0, 1) := by decide +kernel
theorem dX12_ahead__24 : decode cX12_ahead_ 24 = .ok (.istore_n 2, 1) := by decide +kernel
theorem dX12_ahead__25 : decode cX12_ahead_ 25 = .ok (.iload_n 2, 1) := by decide +kernel
theorem dX12_ahead__26 : decode cX12_ahead_ 26 = .ok (.iload_n 1, 1) := by decide +kernel
theorem dX12_ahead__27 : decode cX12_ahead_ 27 = .ok (.if_icmp .ge 14, 3) := by decide +kernel
theorem dX12_ahead__30 : decode cX12_ahead_ 30 = .ok (.aload_n 0, 1) := by decide +kernel
theorem dX12_ahead__31 : decode cX12_ahead_ 31 = .ok (.invokevirtual 216, 3) := by decide +kernel
theorem dX12_ahead__34 : decode cX12_ahead_ 34 = .ok (.pop, 1) := by decide +kernel
theorem dX12_ahead__35 : decode cX12_ahead_ 35 = .ok (.iinc 2 1, 3) := by decide +kernel
theorem dX12_ahead__38 : decode cX12_ahead_ 38 = .ok (.goto (-13), 3) := by decide +kernel
theorem dX12_ahead__41 : decode cX12_ahead_ 41 = .ok (.aload_n 0, 1) := by decide +kernel
theorem dX12_ahead__42 : decode cX12_ahead_ 42 = .ok (.invokevirtual 213, 3) := by decide +kernel
theorem dX12_ahead__45 : decode cX12_ahead_ 45 = .ok (.istore_n 2, 1) := by decide +kernel
theorem dX12_ahead__46 : decode cX12_ahead_ 46 = .ok (.aload_n 0, 1) := by decide +kernel
theorem dX12_ahead__47 : decode cX12_ahead_ 47 = .ok (.invokevirtual 344, 3) := by decide +kernel
theorem dX12_ahead__50 : decode cX12_ahead_ 50 = .ok (.iload_n 2, 1) := by decide +kernel
theorem dX12_ahead__51 : decode cX12_ahead_ 51 = .ok (.ireturn, 1) := by decide +kernel
set_option maxRecDepth 20000 in
theorem ggX12_layOccupied_X12_slotMany : GoodIn wsX12_layOccupied wsX12_slotMany := goodIn_r _ [7, 8, 9, 10, 11, 6, 12, 2, 21, 22, 23, 24, 25, 26, 27, 28, 29, 30, 31, 32, 33, 34, 35, 36, 37, 38, 39, 40, 41, 42, 43, 44, 45, 46, 47, 48, 49, 50] (by decide +kernel) (by decide +kernel)
set_option maxRecDepth 20000 in
theorem gX12_layOccupied_X12_slotMany : GoodIn wsX12_layOccupied (wsV RX12 154 RX12 yX12_slotMany wsX12_slotMany) := goodIn_app (goodIn_of _ (by decide +kernel)) ggX12_layOccupied_X12_slotMany
set_option maxRecDepth 20000 in
theorem ggX12_layOccupied_X12_hasCopy : GoodIn wsX12_layOccupied wsX12_hasCopy := goodIn_r _ [16, 17, 18, 19, 6, 20, 21, 22, 23, 24, 25, 26, 27, 28, 29, 30, 31, 32, 33, 34, 35, 36, 37, 38, 39, 40, 41, 42, 43, 44, 45, 46, 47, 48, 49, 50] (by decide +kernel) (by decide +kernel)
set_option maxRecDepth 20000 in
theorem gX12_layOccupied_X12_hasCopy : GoodIn wsX12_layOccupied (wsV RX12 181 RX12 yX12_hasCopy wsX12_hasCopy) := goodIn_app (goodIn_of _ (by decide +kernel)) ggX12_layOccupied_X12_hasCopy
theorem dX12_layOccupied_0 : decode cX12_layOccupied 0 = .ok (.iconst 0, 1) := by decide +kernel
theorem dX12_layOccupied_1 : decode cX12_layOccupied 1 = .ok (.istore_n 1, 1) := by decide +kernel
theorem dX12_layOccupied_2 : decode cX12_layOccupied 2 = .ok (.iload_n 1, 1) := by decide +kernel
theorem dX12_layOccupied_3 : decode cX12_layOccupied 3 = .ok (.aload_n 0, 1) := by decide +kernel
theorem dX12_layOccupied_4 : decode cX12_layOccupied 4 = .ok (.invokevirtual 154, 3) := by decide +kernel
theorem dX12_layOccupied_7 : decode cX12_layOccupied 7 = .ok (.if_icmp .ge 57, 3) := by decide +kernel
theorem dX12_layOccupied_10 : decode cX12_layOccupied 10 = .ok (.aload_n 0, 1) := by decide +kernel
theorem dX12_layOccupied_11 : decode cX12_layOccupied 11 = .ok (.getfield 56, 3) := by decide +kernel
theorem dX12_layOccupied_14 : decode cX12_layOccupied 14 = .ok (.iload_n 1, 1) := by decide +kernel
theorem dX12_layOccupied_15 : decode cX12_layOccupied 15 = .ok (.iconst 0, 1) := by decide +kernel
theorem dX12_layOccupied_16 : decode cX12_layOccupied 16 = .ok (.iastore, 1) := by decide +kernel
theorem dX12_layOccupied_17 : decode cX12_layOccupied 17 = .ok (.iconst 0, 1) := by decide +kernel
theorem dX12_layOccupied_18 : decode cX12_layOccupied 18 = .ok (.istore_n 2, 1) := by decide +kernel
theorem dX12_layOccupied_19 : decode cX12_layOccupied 19 = .ok (.iload_n 2, 1) := by decide +kernel
theorem dX12_layOccupied_20 : decode cX12_layOccupied 20 = .ok (.aload_n 0, 1) := by decide +kernel
theorem dX12_layOccupied_21 : decode cX12_layOccupied 21 = .ok (.getfield 148, 3) := by decide +kernel
theorem dX12_layOccupied_24 : decode cX12_layOccupied 24 = .ok (.if_icmp .ge 34, 3) := by decide +kernel
theorem dX12_layOccupied_27 : decode cX12_layOccupied 27 = .ok (.aload_n 0, 1) := by decide +kernel
theorem dX12_layOccupied_28 : decode cX12_layOccupied 28 = .ok (.getfield 56, 3) := by decide +kernel
theorem dX12_layOccupied_31 : decode cX12_layOccupied 31 = .ok (.iload_n 1, 1) := by decide +kernel
theorem dX12_layOccupied_32 : decode cX12_layOccupied 32 = .ok (.dup2, 1) := by decide +kernel
theorem dX12_layOccupied_33 : decode cX12_layOccupied 33 = .ok (.iaload, 1) := by decide +kernel
theorem dX12_layOccupied_34 : decode cX12_layOccupied 34 = .ok (.aload_n 0, 1) := by decide +kernel
theorem dX12_layOccupied_35 : decode cX12_layOccupied 35 = .ok (.iload_n 2, 1) := by decide +kernel
theorem dX12_layOccupied_36 : decode cX12_layOccupied 36 = .ok (.iload_n 1, 1) := by decide +kernel
theorem dX12_layOccupied_37 : decode cX12_layOccupied 37 = .ok (.invokevirtual 181, 3) := by decide +kernel
theorem dX12_layOccupied_40 : decode cX12_layOccupied 40 = .ok (.ifCond .eq 9, 3) := by decide +kernel
theorem dX12_layOccupied_43 : decode cX12_layOccupied 43 = .ok (.iconst 1, 1) := by decide +kernel
theorem dX12_layOccupied_44 : decode cX12_layOccupied 44 = .ok (.iload_n 2, 1) := by decide +kernel
theorem dX12_layOccupied_45 : decode cX12_layOccupied 45 = .ok (.ishl, 1) := by decide +kernel
theorem dX12_layOccupied_46 : decode cX12_layOccupied 46 = .ok (.goto 4, 3) := by decide +kernel
theorem dX12_layOccupied_49 : decode cX12_layOccupied 49 = .ok (.iconst 0, 1) := by decide +kernel
theorem dX12_layOccupied_50 : decode cX12_layOccupied 50 = .ok (.ior, 1) := by decide +kernel
theorem dX12_layOccupied_51 : decode cX12_layOccupied 51 = .ok (.iastore, 1) := by decide +kernel
theorem dX12_layOccupied_52 : decode cX12_layOccupied 52 = .ok (.iinc 2 1, 3) := by decide +kernel
theorem dX12_layOccupied_55 : decode cX12_layOccupied 55 = .ok (.goto (-36), 3) := by decide +kernel
theorem dX12_layOccupied_58 : decode cX12_layOccupied 58 = .ok (.iinc 1 1, 3) := by decide +kernel
theorem dX12_layOccupied_61 : decode cX12_layOccupied 61 = .ok (.goto (-59), 3) := by decide +kernel
theorem dX12_layOccupied_64 : decode cX12_layOccupied 64 = .ok (.return_, 1) := by decide +kernel
set_option maxRecDepth 20000 in
theorem ggX12_unknownOnes_X12_everybody : GoodIn wsX12_unknownOnes wsX12_everybody := goodIn_r _ [5, 6, 16, 17, 18, 19, 20, 21, 22, 23, 24, 25, 26, 27, 28, 29, 30, 31, 32, 33, 34, 35, 36, 37, 38, 39, 40, 41, 42, 43, 44, 45] (by decide +kernel) (by decide +kernel)
set_option maxRecDepth 20000 in
theorem gX12_unknownOnes_X12_everybody : GoodIn wsX12_unknownOnes (wsV RX12 350 RX12 yX12_everybody wsX12_everybody) := goodIn_app (goodIn_of _ (by decide +kernel)) ggX12_unknownOnes_X12_everybody
set_option maxRecDepth 20000 in
theorem ggX12_unknownOnes_X12_knownSet : GoodIn wsX12_unknownOnes wsX12_knownSet := goodIn_r _ [10, 6, 11, 12, 13, 4, 14, 15, 16, 17, 18, 19, 20, 21, 22, 23, 24, 25, 26, 27, 28, 29, 30, 31, 32, 33, 34, 35, 36, 37, 38, 39, 40, 41, 42, 43, 44, 45] (by decide +kernel) (by decide +kernel)
set_option maxRecDepth 20000 in
theorem gX12_unknownOnes_X12_knownSet : GoodIn wsX12_unknownOnes (wsV RX12 213 RX12 yX12_knownSet wsX12_knownSet) := goodIn_app (goodIn_of _ (by decide +kernel)) ggX12_unknownOnes_X12_knownSet
theorem dX12_unknownOnes_0 : decode cX12_unknownOnes 0 = .ok (.aload_n 0, 1) := by decide +kernel
theorem dX12_unknownOnes_1 : decode cX12_unknownOnes 1 = .ok (.invokevirtual 350, 3) := by decide +kernel
theorem dX12_unknownOnes_4 : decode cX12_unknownOnes 4 = .ok (.aload_n 0, 1) := by decide +kernel
theorem dX12_unknownOnes_5 : decode cX12_unknownOnes 5 = .ok (.invokevirtual 213, 3) := by decide +kernel
theorem dX12_unknownOnes_8 : decode cX12_unknownOnes 8 = .ok (.iconst (-1), 1) := by decide +kernel
theorem dX12_unknownOnes_9 : decode cX12_unknownOnes 9 = .ok (.ixor, 1) := by decide +kernel
theorem dX12_unknownOnes_10 : decode cX12_unknownOnes 10 = .ok (.iand, 1) := by decide +kernel
theorem dX12_unknownOnes_11 : decode cX12_unknownOnes 11 = .ok (.ireturn, 1) := by decide +kernel
set_option maxRecDepth 20000 in
theorem ggX12_clearBy_X12_has : GoodIn wsX12_clearBy wsX12_has := goodIn_r _ [11] (by decide +kernel) (by decide +kernel)
set_option maxRecDepth 20000 in
theorem gX12_clearBy_X12_has : GoodIn wsX12_clearBy (va_wsS RX12 107 yX12_has wsX12_has) := goodIn_app (goodIn_of _ (by decide +kernel)) ggX12_clearBy_X12_has
theorem dX12_clearBy_0 : decode cX12_clearBy 0 = .ok (.aload_n 0, 1) := by decide +kernel
theorem dX12_clearBy_1 : decode cX12_clearBy 1 = .ok (.getfield 56, 3) := by decide +kernel
theorem dX12_clearBy_4 : decode cX12_clearBy 4 = .ok (.iload_n 1, 1) := by decide +kernel
theorem dX12_clearBy_5 : decode cX12_clearBy 5 = .ok (.iaload, 1) := by decide +kernel
theorem dX12_clearBy_6 : decode cX12_clearBy 6 = .ok (.iload_n 2, 1) := by decide +kernel
theorem dX12_clearBy_7 : decode cX12_clearBy 7 = .ok (.iand, 1) := by decide +kernel
theorem dX12_clearBy_8 : decode cX12_clearBy 8 = .ok (.istore_n 3, 1) := by decide +kernel
theorem dX12_clearBy_9 : decode cX12_clearBy 9 = .ok (.iload_n 3, 1) := by decide +kernel
theorem dX12_clearBy_10 : decode cX12_clearBy 10 = .ok (.ifCond .eq 16, 3) := by decide +kernel
theorem dX12_clearBy_13 : decode cX12_clearBy 13 = .ok (.aload_n 0, 1) := by decide +kernel
theorem dX12_clearBy_14 : decode cX12_clearBy 14 = .ok (.getfield 188, 3) := by decide +kernel
theorem dX12_clearBy_17 : decode cX12_clearBy 17 = .ok (.iload_n 1, 1) := by decide +kernel
theorem dX12_clearBy_18 : decode cX12_clearBy 18 = .ok (.lshr, 1) := by decide +kernel
theorem dX12_clearBy_19 : decode cX12_clearBy 19 = .ok (.lconst 1, 1) := by decide +kernel
theorem dX12_clearBy_20 : decode cX12_clearBy 20 = .ok (.land, 1) := by decide +kernel
theorem dX12_clearBy_21 : decode cX12_clearBy 21 = .ok (.lconst 1, 1) := by decide +kernel
theorem dX12_clearBy_22 : decode cX12_clearBy 22 = .ok (.lcmp, 1) := by decide +kernel
theorem dX12_clearBy_23 : decode cX12_clearBy 23 = .ok (.ifCond .ne 5, 3) := by decide +kernel
theorem dX12_clearBy_26 : decode cX12_clearBy 26 = .ok (.iconst 0, 1) := by decide +kernel
theorem dX12_clearBy_27 : decode cX12_clearBy 27 = .ok (.ireturn, 1) := by decide +kernel
theorem dX12_clearBy_28 : decode cX12_clearBy 28 = .ok (.aload_n 0, 1) := by decide +kernel
theorem dX12_clearBy_29 : decode cX12_clearBy 29 = .ok (.getfield 37, 3) := by decide +kernel
theorem dX12_clearBy_32 : decode cX12_clearBy 32 = .ok (.bipush 30, 2) := by decide +kernel
theorem dX12_clearBy_34 : decode cX12_clearBy 34 = .ok (.iaload, 1) := by decide +kernel
theorem dX12_clearBy_35 : decode cX12_clearBy 35 = .ok (.ifCond .ne 17, 3) := by decide +kernel
theorem dX12_clearBy_38 : decode cX12_clearBy 38 = .ok (.iload_n 3, 1) := by decide +kernel
theorem dX12_clearBy_39 : decode cX12_clearBy 39 = .ok (.iload_n 3, 1) := by decide +kernel
theorem dX12_clearBy_40 : decode cX12_clearBy 40 = .ok (.iconst 1, 1) := by decide +kernel
theorem dX12_clearBy_41 : decode cX12_clearBy 41 = .ok (.isub, 1) := by decide +kernel
theorem dX12_clearBy_42 : decode cX12_clearBy 42 = .ok (.iand, 1) := by decide +kernel
theorem dX12_clearBy_43 : decode cX12_clearBy 43 = .ok (.ifCond .ne 7, 3) := by decide +kernel
theorem dX12_clearBy_46 : decode cX12_clearBy 46 = .ok (.iload_n 3, 1) := by decide +kernel
theorem dX12_clearBy_47 : decode cX12_clearBy 47 = .ok (.goto 4, 3) := by decide +kernel
theorem dX12_clearBy_50 : decode cX12_clearBy 50 = .ok (.iconst 0, 1) := by decide +kernel
theorem dX12_clearBy_51 : decode cX12_clearBy 51 = .ok (.ireturn, 1) := by decide +kernel
theorem dX12_clearBy_52 : decode cX12_clearBy 52 = .ok (.iconst 0, 1) := by decide +kernel
theorem dX12_clearBy_53 : decode cX12_clearBy 53 = .ok (.istore 4, 2) := by decide +kernel
theorem dX12_clearBy_55 : decode cX12_clearBy 55 = .ok (.iconst 0, 1) := by decide +kernel
theorem dX12_clearBy_56 : decode cX12_clearBy 56 = .ok (.istore 5, 2) := by decide +kernel
theorem dX12_clearBy_58 : decode cX12_clearBy 58 = .ok (.iload 5, 2) := by decide +kernel
theorem dX12_clearBy_60 : decode cX12_clearBy 60 = .ok (.aload_n 0, 1) := by decide +kernel
theorem dX12_clearBy_61 : decode cX12_clearBy 61 = .ok (.getfield 148, 3) := by decide +kernel
theorem dX12_clearBy_64 : decode cX12_clearBy 64 = .ok (.if_icmp .ge 123, 3) := by decide +kernel
theorem dX12_clearBy_67 : decode cX12_clearBy 67 = .ok (.iload_n 3, 1) := by decide +kernel
theorem dX12_clearBy_68 : decode cX12_clearBy 68 = .ok (.iload 5, 2) := by decide +kernel
theorem dX12_clearBy_70 : decode cX12_clearBy 70 = .ok (.invokestatic 107, 3) := by decide +kernel
theorem dX12_clearBy_73 : decode cX12_clearBy 73 = .ok (.ifCond .eq 108, 3) := by decide +kernel
theorem dX12_clearBy_76 : decode cX12_clearBy 76 = .ok (.aload_n 0, 1) := by decide +kernel
theorem dX12_clearBy_77 : decode cX12_clearBy 77 = .ok (.getfield 22, 3) := by decide +kernel
theorem dX12_clearBy_80 : decode cX12_clearBy 80 = .ok (.iconst 3, 1) := by decide +kernel
theorem dX12_clearBy_81 : decode cX12_clearBy 81 = .ok (.iaload, 1) := by decide +kernel
theorem dX12_clearBy_82 : decode cX12_clearBy 82 = .ok (.i2f, 1) := by decide +kernel
theorem dX12_clearBy_83 : decode cX12_clearBy 83 = .ok (.ldc 160, 2) := by decide +kernel
theorem dX12_clearBy_85 : decode cX12_clearBy 85 = .ok (.fdiv, 1) := by decide +kernel
theorem dX12_clearBy_86 : decode cX12_clearBy 86 = .ok (.fstore 6, 2) := by decide +kernel
theorem dX12_clearBy_88 : decode cX12_clearBy 88 = .ok (.iconst 0, 1) := by decide +kernel
theorem dX12_clearBy_89 : decode cX12_clearBy 89 = .ok (.istore 7, 2) := by decide +kernel
theorem dX12_clearBy_91 : decode cX12_clearBy 91 = .ok (.iload 7, 2) := by decide +kernel
theorem dX12_clearBy_93 : decode cX12_clearBy 93 = .ok (.aload_n 0, 1) := by decide +kernel
theorem dX12_clearBy_94 : decode cX12_clearBy 94 = .ok (.getfield 148, 3) := by decide +kernel
theorem dX12_clearBy_97 : decode cX12_clearBy 97 = .ok (.if_icmp .ge 42, 3) := by decide +kernel
theorem dX12_clearBy_100 : decode cX12_clearBy 100 = .ok (.iload 7, 2) := by decide +kernel
theorem dX12_clearBy_102 : decode cX12_clearBy 102 = .ok (.iload 5, 2) := by decide +kernel
theorem dX12_clearBy_104 : decode cX12_clearBy 104 = .ok (.if_icmp .eq 25, 3) := by decide +kernel
theorem dX12_clearBy_107 : decode cX12_clearBy 107 = .ok (.iload_n 3, 1) := by decide +kernel
theorem dX12_clearBy_108 : decode cX12_clearBy 108 = .ok (.iload 7, 2) := by decide +kernel
theorem dX12_clearBy_110 : decode cX12_clearBy 110 = .ok (.invokestatic 107, 3) := by decide +kernel
theorem dX12_clearBy_113 : decode cX12_clearBy 113 = .ok (.ifCond .eq 16, 3) := by decide +kernel
theorem dX12_clearBy_116 : decode cX12_clearBy 116 = .ok (.fload 6, 2) := by decide +kernel
theorem dX12_clearBy_118 : decode cX12_clearBy 118 = .ok (.aload_n 0, 1) := by decide +kernel
theorem dX12_clearBy_119 : decode cX12_clearBy 119 = .ok (.getfield 43, 3) := by decide +kernel
theorem dX12_clearBy_122 : decode cX12_clearBy 122 = .ok (.iload 7, 2) := by decide +kernel
theorem dX12_clearBy_124 : decode cX12_clearBy 124 = .ok (.faload, 1) := by decide +kernel
theorem dX12_clearBy_125 : decode cX12_clearBy 125 = .ok (.fadd, 1) := by decide +kernel
theorem dX12_clearBy_126 : decode cX12_clearBy 126 = .ok (.goto 5, 3) := by decide +kernel
theorem dX12_clearBy_129 : decode cX12_clearBy 129 = .ok (.fload 6, 2) := by decide +kernel
theorem dX12_clearBy_131 : decode cX12_clearBy 131 = .ok (.fstore 6, 2) := by decide +kernel
theorem dX12_clearBy_133 : decode cX12_clearBy 133 = .ok (.iinc 7 1, 3) := by decide +kernel
theorem dX12_clearBy_136 : decode cX12_clearBy 136 = .ok (.goto (-45), 3) := by decide +kernel
theorem dX12_clearBy_139 : decode cX12_clearBy 139 = .ok (.aload_n 0, 1) := by decide +kernel
theorem dX12_clearBy_140 : decode cX12_clearBy 140 = .ok (.getfield 37, 3) := by decide +kernel
theorem dX12_clearBy_143 : decode cX12_clearBy 143 = .ok (.bipush 30, 2) := by decide +kernel
theorem dX12_clearBy_145 : decode cX12_clearBy 145 = .ok (.iaload, 1) := by decide +kernel
theorem dX12_clearBy_146 : decode cX12_clearBy 146 = .ok (.i2f, 1) := by decide +kernel
theorem dX12_clearBy_147 : decode cX12_clearBy 147 = .ok (.ldc 160, 2) := by decide +kernel
theorem dX12_clearBy_149 : decode cX12_clearBy 149 = .ok (.fdiv, 1) := by decide +kernel
theorem dX12_clearBy_150 : decode cX12_clearBy 150 = .ok (.fstore 7, 2) := by decide +kernel
theorem dX12_clearBy_152 : decode cX12_clearBy 152 = .ok (.iload 4, 2) := by decide +kernel
theorem dX12_clearBy_154 : decode cX12_clearBy 154 = .ok (.aload_n 0, 1) := by decide +kernel
theorem dX12_clearBy_155 : decode cX12_clearBy 155 = .ok (.getfield 43, 3) := by decide +kernel
theorem dX12_clearBy_158 : decode cX12_clearBy 158 = .ok (.iload 5, 2) := by decide +kernel
theorem dX12_clearBy_160 : decode cX12_clearBy 160 = .ok (.faload, 1) := by decide +kernel
theorem dX12_clearBy_161 : decode cX12_clearBy 161 = .ok (.fload 7, 2) := by decide +kernel
theorem dX12_clearBy_163 : decode cX12_clearBy 163 = .ok (.fload 6, 2) := by decide +kernel
theorem dX12_clearBy_165 : decode cX12_clearBy 165 = .ok (.fmul, 1) := by decide +kernel
theorem dX12_clearBy_166 : decode cX12_clearBy 166 = .ok (.fcmp .l, 1) := by decide +kernel
theorem dX12_clearBy_167 : decode cX12_clearBy 167 = .ok (.ifCond .lt 10, 3) := by decide +kernel
theorem dX12_clearBy_170 : decode cX12_clearBy 170 = .ok (.iconst 1, 1) := by decide +kernel
theorem dX12_clearBy_171 : decode cX12_clearBy 171 = .ok (.iload 5, 2) := by decide +kernel
theorem dX12_clearBy_173 : decode cX12_clearBy 173 = .ok (.ishl, 1) := by decide +kernel
theorem dX12_clearBy_174 : decode cX12_clearBy 174 = .ok (.goto 4, 3) := by decide +kernel
theorem dX12_clearBy_177 : decode cX12_clearBy 177 = .ok (.iconst 0, 1) := by decide +kernel
theorem dX12_clearBy_178 : decode cX12_clearBy 178 = .ok (.ior, 1) := by decide +kernel
theorem dX12_clearBy_179 : decode cX12_clearBy 179 = .ok (.istore 4, 2) := by decide +kernel
theorem dX12_clearBy_181 : decode cX12_clearBy 181 = .ok (.iinc 5 1, 3) := by decide +kernel
theorem dX12_clearBy_184 : decode cX12_clearBy 184 = .ok (.goto (-126), 3) := by decide +kernel
theorem dX12_clearBy_187 : decode cX12_clearBy 187 = .ok (.iload 4, 2) := by decide +kernel
theorem dX12_clearBy_189 : decode cX12_clearBy 189 = .ok (.ireturn, 1) := by decide +kernel
set_option maxRecDepth 20000 in
theorem ggX12_remaining_X12_slotMany : GoodIn wsX12_remaining wsX12_slotMany := goodIn_r _ [5, 6, 7, 8, 9, 4, 10, 11, 24, 25, 26, 27, 28, 29, 30, 31, 32, 33, 34, 35, 36, 37, 38, 39, 40, 41, 42, 43, 44, 45, 46, 47, 48, 49, 50, 51, 52, 53] (by decide +kernel) (by decide +kernel)
set_option maxRecDepth 20000 in
theorem gX12_remaining_X12_slotMany : GoodIn wsX12_remaining (wsV RX12 154 RX12 yX12_slotMany wsX12_slotMany) := goodIn_app (goodIn_of _ (by decide +kernel)) ggX12_remaining_X12_slotMany
set_option maxRecDepth 20000 in
theorem ggX12_remaining_X12_clearBy : GoodIn wsX12_remaining wsX12_clearBy := goodIn_r _ [15, 16, 17, 18, 11, 6, 19, 20, 21, 22, 4, 23, 24, 25, 26, 27, 28, 29, 30, 31, 32, 33, 34, 35, 36, 37, 38, 39, 40, 41, 42, 43, 44, 45, 46, 47, 48, 49, 50, 51, 52, 53] (by decide +kernel) (by decide +kernel)
set_option maxRecDepth 20000 in
theorem gX12_remaining_X12_clearBy : GoodIn wsX12_remaining (wsV RX12 353 RX12 yX12_clearBy wsX12_clearBy) := goodIn_app (goodIn_of _ (by decide +kernel)) ggX12_remaining_X12_clearBy
theorem dX12_remaining_0 : decode cX12_remaining 0 = .ok (.iload_n 1, 1) := by decide +kernel
theorem dX12_remaining_1 : decode cX12_remaining 1 = .ok (.istore_n 2, 1) := by decide +kernel
theorem dX12_remaining_2 : decode cX12_remaining 2 = .ok (.iconst 1, 1) := by decide +kernel
theorem dX12_remaining_3 : decode cX12_remaining 3 = .ok (.istore_n 3, 1) := by decide +kernel
theorem dX12_remaining_4 : decode cX12_remaining 4 = .ok (.iload_n 3, 1) := by decide +kernel
theorem dX12_remaining_5 : decode cX12_remaining 5 = .ok (.ifCond .eq 42, 3) := by decide +kernel
theorem dX12_remaining_8 : decode cX12_remaining 8 = .ok (.iconst 0, 1) := by decide +kernel
theorem dX12_remaining_9 : decode cX12_remaining 9 = .ok (.istore_n 3, 1) := by decide +kernel
theorem dX12_remaining_10 : decode cX12_remaining 10 = .ok (.iconst 0, 1) := by decide +kernel
theorem dX12_remaining_11 : decode cX12_remaining 11 = .ok (.istore 4, 2) := by decide +kernel
theorem dX12_remaining_13 : decode cX12_remaining 13 = .ok (.iload 4, 2) := by decide +kernel
theorem dX12_remaining_15 : decode cX12_remaining 15 = .ok (.aload_n 0, 1) := by decide +kernel
theorem dX12_remaining_16 : decode cX12_remaining 16 = .ok (.invokevirtual 154, 3) := by decide +kernel
theorem dX12_remaining_19 : decode cX12_remaining 19 = .ok (.if_icmp .ge 19, 3) := by decide +kernel
theorem dX12_remaining_22 : decode cX12_remaining 22 = .ok (.iload_n 3, 1) := by decide +kernel
theorem dX12_remaining_23 : decode cX12_remaining 23 = .ok (.aload_n 0, 1) := by decide +kernel
theorem dX12_remaining_24 : decode cX12_remaining 24 = .ok (.iload 4, 2) := by decide +kernel
theorem dX12_remaining_26 : decode cX12_remaining 26 = .ok (.iload_n 2, 1) := by decide +kernel
theorem dX12_remaining_27 : decode cX12_remaining 27 = .ok (.invokevirtual 353, 3) := by decide +kernel
theorem dX12_remaining_30 : decode cX12_remaining 30 = .ok (.ior, 1) := by decide +kernel
theorem dX12_remaining_31 : decode cX12_remaining 31 = .ok (.istore_n 3, 1) := by decide +kernel
theorem dX12_remaining_32 : decode cX12_remaining 32 = .ok (.iinc 4 1, 3) := by decide +kernel
theorem dX12_remaining_35 : decode cX12_remaining 35 = .ok (.goto (-22), 3) := by decide +kernel
theorem dX12_remaining_38 : decode cX12_remaining 38 = .ok (.iload_n 2, 1) := by decide +kernel
theorem dX12_remaining_39 : decode cX12_remaining 39 = .ok (.iload_n 3, 1) := by decide +kernel
theorem dX12_remaining_40 : decode cX12_remaining 40 = .ok (.iconst (-1), 1) := by decide +kernel
theorem dX12_remaining_41 : decode cX12_remaining 41 = .ok (.ixor, 1) := by decide +kernel
theorem dX12_remaining_42 : decode cX12_remaining 42 = .ok (.iand, 1) := by decide +kernel
theorem dX12_remaining_43 : decode cX12_remaining 43 = .ok (.istore_n 2, 1) := by decide +kernel
theorem dX12_remaining_44 : decode cX12_remaining 44 = .ok (.goto (-40), 3) := by decide +kernel
theorem dX12_remaining_47 : decode cX12_remaining 47 = .ok (.iload_n 2, 1) := by decide +kernel
theorem dX12_remaining_48 : decode cX12_remaining 48 = .ok (.ireturn, 1) := by decide +kernel
set_option maxRecDepth 20000 in
theorem ggX12_knownWith_X12_everybody : GoodIn wsX12_knownWith wsX12_everybody := goodIn_r _ [5, 6, 44, 45, 46, 47, 48, 49, 50, 51, 52, 53, 54, 55, 56, 57, 58, 59, 60, 61, 62, 63, 64, 65, 66, 67, 68, 69, 70, 71, 72, 73] (by decide +kernel) (by decide +kernel)
set_option maxRecDepth 20000 in
theorem gX12_knownWith_X12_everybody : GoodIn wsX12_knownWith (wsV RX12 350 RX12 yX12_everybody wsX12_everybody) := goodIn_app (goodIn_of _ (by decide +kernel)) ggX12_knownWith_X12_everybody
set_option maxRecDepth 20000 in
theorem ggX12_knownWith_X12_unknownOnes : GoodIn wsX12_knownWith wsX12_unknownOnes := goodIn_r _ [10, 1, 2, 3, 4, 5, 6, 11, 12, 13, 14, 15, 16, 17, 18, 19, 44, 45, 46, 47, 48, 49, 50, 51, 52, 53, 54, 55, 56, 57, 58, 59, 60, 61, 62, 63, 64, 65, 66, 67, 68, 69, 70, 71, 72, 73] (by decide +kernel) (by decide +kernel)
set_option maxRecDepth 20000 in
theorem gX12_knownWith_X12_unknownOnes : GoodIn wsX12_knownWith (wsV RX12 332 RX12 yX12_unknownOnes wsX12_unknownOnes) := goodIn_app (goodIn_of _ (by decide +kernel)) ggX12_knownWith_X12_unknownOnes
set_option maxRecDepth 20000 in
theorem ggX12_knownWith_X12_remaining : GoodIn wsX12_knownWith wsX12_remaining := goodIn_r _ [23, 24, 25, 26, 4, 27, 28, 29, 30, 31, 32, 6, 33, 34, 35, 36, 37, 38, 19, 39, 40, 41, 42, 43, 44, 45, 46, 47, 48, 49, 50, 51, 52, 53, 54, 55, 56, 57, 58, 59, 60, 61, 62, 63, 64, 65, 66, 67, 68, 69, 70, 71, 72, 73] (by decide +kernel) (by decide +kernel)
set_option maxRecDepth 20000 in
theorem gX12_knownWith_X12_remaining : GoodIn wsX12_knownWith (wsV RX12 335 RX12 yX12_remaining wsX12_remaining) := goodIn_app (goodIn_of _ (by decide +kernel)) ggX12_knownWith_X12_remaining
theorem dX12_knownWith_0 : decode cX12_knownWith 0 = .ok (.aload_n 0, 1) := by decide +kernel
theorem dX12_knownWith_1 : decode cX12_knownWith 1 = .ok (.invokevirtual 350, 3) := by decide +kernel
theorem dX12_knownWith_4 : decode cX12_knownWith 4 = .ok (.aload_n 0, 1) := by decide +kernel
theorem dX12_knownWith_5 : decode cX12_knownWith 5 = .ok (.aload_n 0, 1) := by decide +kernel
theorem dX12_knownWith_6 : decode cX12_knownWith 6 = .ok (.invokevirtual 332, 3) := by decide +kernel
theorem dX12_knownWith_9 : decode cX12_knownWith 9 = .ok (.iload_n 1, 1) := by decide +kernel
theorem dX12_knownWith_10 : decode cX12_knownWith 10 = .ok (.iconst (-1), 1) := by decide +kernel
theorem dX12_knownWith_11 : decode cX12_knownWith 11 = .ok (.ixor, 1) := by decide +kernel
theorem dX12_knownWith_12 : decode cX12_knownWith 12 = .ok (.iand, 1) := by decide +kernel
theorem dX12_knownWith_13 : decode cX12_knownWith 13 = .ok (.invokevirtual 335, 3) := by decide +kernel
theorem dX12_knownWith_16 : decode cX12_knownWith 16 = .ok (.iconst (-1), 1) := by decide +kernel
theorem dX12_knownWith_17 : decode cX12_knownWith 17 = .ok (.ixor, 1) := by decide +kernel
theorem dX12_knownWith_18 : decode cX12_knownWith 18 = .ok (.iand, 1) := by decide +kernel
theorem dX12_knownWith_19 : decode cX12_knownWith 19 = .ok (.istore_n 3, 1) := by decide +kernel
theorem dX12_knownWith_20 : decode cX12_knownWith 20 = .ok (.iload_n 2, 1) := by decide +kernel
theorem dX12_knownWith_21 : decode cX12_knownWith 21 = .ok (.ifCond .eq 7, 3) := by decide +kernel
theorem dX12_knownWith_24 : decode cX12_knownWith 24 = .ok (.iload_n 3, 1) := by decide +kernel
theorem dX12_knownWith_25 : decode cX12_knownWith 25 = .ok (.goto 8, 3) := by decide +kernel
theorem dX12_knownWith_28 : decode cX12_knownWith 28 = .ok (.iload_n 3, 1) := by decide +kernel
theorem dX12_knownWith_29 : decode cX12_knownWith 29 = .ok (.iload_n 1, 1) := by decide +kernel
theorem dX12_knownWith_30 : decode cX12_knownWith 30 = .ok (.iconst (-1), 1) := by decide +kernel
theorem dX12_knownWith_31 : decode cX12_knownWith 31 = .ok (.ixor, 1) := by decide +kernel
theorem dX12_knownWith_32 : decode cX12_knownWith 32 = .ok (.iand, 1) := by decide +kernel
theorem dX12_knownWith_33 : decode cX12_knownWith 33 = .ok (.ireturn, 1) := by decide +kernel
set_option maxRecDepth 20000 in
theorem ggX12_fewest_X12_isField : GoodIn wsX12_fewest wsX12_isField := goodIn_r _ [5, 6, 62, 63, 64, 65, 66, 67, 68, 69, 70, 71, 72, 73, 74, 75, 76, 77, 78, 79, 80, 81, 82, 83, 84, 85, 86, 87, 88, 89, 90, 91] (by decide +kernel) (by decide +kernel)
set_option maxRecDepth 20000 in
theorem gX12_fewest_X12_isField : GoodIn wsX12_fewest (wsV RX12 151 RX12 yX12_isField wsX12_isField) := goodIn_app (goodIn_of _ (by decide +kernel)) ggX12_fewest_X12_isField
set_option maxRecDepth 20000 in
theorem ggX12_fewest_X12_in : GoodIn wsX12_fewest wsX12_in := goodIn_r _ [9] (by decide +kernel) (by decide +kernel)
set_option maxRecDepth 20000 in
theorem gX12_fewest_X12_in : GoodIn wsX12_fewest (va_wsS RX12 76 yX12_in wsX12_in) := goodIn_app (goodIn_of _ (by decide +kernel)) ggX12_fewest_X12_in
set_option maxRecDepth 20000 in
theorem ggX12_fewest_X12_layOccupied : GoodIn wsX12_fewest wsX12_layOccupied := goodIn_r _ [13, 14, 6, 15, 16, 17, 4, 18, 19, 1, 2, 3, 5, 20, 21, 22, 23, 24, 25, 26, 27, 62, 63, 64, 65, 66, 67, 68, 69, 70, 71, 72, 73, 74, 75, 76, 77, 78, 79, 80, 81, 82, 83, 84, 85, 86, 87, 88, 89, 90, 91] (by decide +kernel) (by decide +kernel)
set_option maxRecDepth 20000 in
theorem gX12_fewest_X12_layOccupied : GoodIn wsX12_fewest (wsV RX12 329 RX12 yX12_layOccupied wsX12_layOccupied) := goodIn_app (goodIn_of _ (by decide +kernel)) ggX12_fewest_X12_layOccupied
set_option maxRecDepth 20000 in
theorem ggX12_fewest_X12_unknownOnes : GoodIn wsX12_fewest wsX12_unknownOnes := goodIn_r _ [31, 32, 33, 34, 4, 35, 6, 36, 37, 38, 39, 40, 41, 42, 43, 24, 62, 63, 64, 65, 66, 67, 68, 69, 70, 71, 72, 73, 74, 75, 76, 77, 78, 79, 80, 81, 82, 83, 84, 85, 86, 87, 88, 89, 90, 91] (by decide +kernel) (by decide +kernel)
set_option maxRecDepth 20000 in
theorem gX12_fewest_X12_unknownOnes : GoodIn wsX12_fewest (wsV RX12 332 RX12 yX12_unknownOnes wsX12_unknownOnes) := goodIn_app (goodIn_of _ (by decide +kernel)) ggX12_fewest_X12_unknownOnes
set_option maxRecDepth 20000 in
theorem ggX12_fewest_X12_bits : GoodIn wsX12_fewest wsX12_bits := goodIn_r _ [46] (by decide +kernel) (by decide +kernel)
set_option maxRecDepth 20000 in
theorem gX12_fewest_X12_bits : GoodIn wsX12_fewest (va_wsS RX12 157 yX12_bits wsX12_bits) := goodIn_app (goodIn_of _ (by decide +kernel)) ggX12_fewest_X12_bits
set_option maxRecDepth 20000 in
theorem ggX12_fewest_X12_knownWith : GoodIn wsX12_fewest wsX12_knownWith := goodIn_r _ [50, 32, 33, 34, 4, 35, 6, 28, 29, 30, 31, 36, 37, 38, 39, 40, 41, 42, 43, 24, 51, 52, 53, 54, 15, 16, 17, 18, 19, 1, 2, 3, 5, 55, 56, 57, 58, 14, 59, 60, 61, 25, 26, 27, 62, 63, 64, 65, 66, 67, 68, 69, 70, 71, 72, 73, 74, 75, 76, 77, 78, 79, 80, 81, 82, 83, 84, 85, 86, 87, 88, 89, 90, 91] (by decide +kernel) (by decide +kernel)
set_option maxRecDepth 20000 in
theorem gX12_fewest_X12_knownWith : GoodIn wsX12_fewest (wsV RX12 356 RX12 yX12_knownWith wsX12_knownWith) := goodIn_app (goodIn_of _ (by decide +kernel)) ggX12_fewest_X12_knownWith
set_option maxRecDepth 20000 in
theorem ggX12_fewest_X12_everybody : GoodIn wsX12_fewest wsX12_everybody := goodIn_r _ [35, 6, 62, 63, 64, 65, 66, 67, 68, 69, 70, 71, 72, 73, 74, 75, 76, 77, 78, 79, 80, 81, 82, 83, 84, 85, 86, 87, 88, 89, 90, 91] (by decide +kernel) (by decide +kernel)
set_option maxRecDepth 20000 in
theorem gX12_fewest_X12_everybody : GoodIn wsX12_fewest (wsV RX12 350 RX12 yX12_everybody wsX12_everybody) := goodIn_app (goodIn_of _ (by decide +kernel)) ggX12_fewest_X12_everybody
theorem dX12_fewest_0 : decode cX12_fewest 0 = .ok (.aload_n 0, 1) := by decide +kernel
theorem dX12_fewest_1 : decode cX12_fewest 1 = .ok (.invokevirtual 151, 3) := by decide +kernel
theorem dX12_fewest_4 : decode cX12_fewest 4 = .ok (.ifCond .eq 21, 3) := by decide +kernel
theorem dX12_fewest_7 : decode cX12_fewest 7 = .ok (.iload_n 1, 1) := by decide +kernel
theorem dX12_fewest_8 : decode cX12_fewest 8 = .ok (.iconst 0, 1) := by decide +kernel
theorem dX12_fewest_9 : decode cX12_fewest 9 = .ok (.iconst 1, 1) := by decide +kernel
theorem dX12_fewest_10 : decode cX12_fewest 10 = .ok (.invokestatic 76, 3) := by decide +kernel
theorem dX12_fewest_13 : decode cX12_fewest 13 = .ok (.ifCond .eq 12, 3) := by decide +kernel
theorem dX12_fewest_16 : decode cX12_fewest 16 = .ok (.iload_n 2, 1) := by decide +kernel
theorem dX12_fewest_17 : decode cX12_fewest 17 = .ok (.iconst 0, 1) := by decide +kernel
theorem dX12_fewest_18 : decode cX12_fewest 18 = .ok (.iconst 1, 1) := by decide +kernel
theorem dX12_fewest_19 : decode cX12_fewest 19 = .ok (.invokestatic 76, 3) := by decide +kernel
theorem dX12_fewest_22 : decode cX12_fewest 22 = .ok (.ifCond .ne 5, 3) := by decide +kernel
theorem dX12_fewest_25 : decode cX12_fewest 25 = .ok (.iconst (-1), 1) := by decide +kernel
theorem dX12_fewest_26 : decode cX12_fewest 26 = .ok (.ireturn, 1) := by decide +kernel
theorem dX12_fewest_27 : decode cX12_fewest 27 = .ok (.aload_n 0, 1) := by decide +kernel
theorem dX12_fewest_28 : decode cX12_fewest 28 = .ok (.invokevirtual 329, 3) := by decide +kernel
theorem dX12_fewest_31 : decode cX12_fewest 31 = .ok (.aload_n 0, 1) := by decide +kernel
theorem dX12_fewest_32 : decode cX12_fewest 32 = .ok (.invokevirtual 332, 3) := by decide +kernel
theorem dX12_fewest_35 : decode cX12_fewest 35 = .ok (.istore_n 3, 1) := by decide +kernel
theorem dX12_fewest_36 : decode cX12_fewest 36 = .ok (.iload_n 3, 1) := by decide +kernel
theorem dX12_fewest_37 : decode cX12_fewest 37 = .ok (.istore 4, 2) := by decide +kernel
theorem dX12_fewest_39 : decode cX12_fewest 39 = .ok (.iconst 0, 1) := by decide +kernel
theorem dX12_fewest_40 : decode cX12_fewest 40 = .ok (.istore 5, 2) := by decide +kernel
theorem dX12_fewest_42 : decode cX12_fewest 42 = .ok (.iload 5, 2) := by decide +kernel
theorem dX12_fewest_44 : decode cX12_fewest 44 = .ok (.iload_n 3, 1) := by decide +kernel
theorem dX12_fewest_45 : decode cX12_fewest 45 = .ok (.if_icmp .gt 73, 3) := by decide +kernel
theorem dX12_fewest_48 : decode cX12_fewest 48 = .ok (.iload 5, 2) := by decide +kernel
theorem dX12_fewest_50 : decode cX12_fewest 50 = .ok (.iload_n 3, 1) := by decide +kernel
theorem dX12_fewest_51 : decode cX12_fewest 51 = .ok (.iconst (-1), 1) := by decide +kernel
theorem dX12_fewest_52 : decode cX12_fewest 52 = .ok (.ixor, 1) := by decide +kernel
theorem dX12_fewest_53 : decode cX12_fewest 53 = .ok (.iand, 1) := by decide +kernel
theorem dX12_fewest_54 : decode cX12_fewest 54 = .ok (.ifCond .ne 20, 3) := by decide +kernel
theorem dX12_fewest_57 : decode cX12_fewest 57 = .ok (.iload 5, 2) := by decide +kernel
theorem dX12_fewest_59 : decode cX12_fewest 59 = .ok (.invokestatic 157, 3) := by decide +kernel
theorem dX12_fewest_62 : decode cX12_fewest 62 = .ok (.iload 4, 2) := by decide +kernel
theorem dX12_fewest_64 : decode cX12_fewest 64 = .ok (.invokestatic 157, 3) := by decide +kernel
theorem dX12_fewest_67 : decode cX12_fewest 67 = .ok (.if_icmp .ge 7, 3) := by decide +kernel
theorem dX12_fewest_70 : decode cX12_fewest 70 = .ok (.iconst 1, 1) := by decide +kernel
theorem dX12_fewest_71 : decode cX12_fewest 71 = .ok (.goto 4, 3) := by decide +kernel
theorem dX12_fewest_74 : decode cX12_fewest 74 = .ok (.iconst 0, 1) := by decide +kernel
theorem dX12_fewest_75 : decode cX12_fewest 75 = .ok (.istore 6, 2) := by decide +kernel
theorem dX12_fewest_77 : decode cX12_fewest 77 = .ok (.iload 6, 2) := by decide +kernel
theorem dX12_fewest_79 : decode cX12_fewest 79 = .ok (.ifCond .eq 33, 3) := by decide +kernel
theorem dX12_fewest_82 : decode cX12_fewest 82 = .ok (.aload_n 0, 1) := by decide +kernel
theorem dX12_fewest_83 : decode cX12_fewest 83 = .ok (.iload 5, 2) := by decide +kernel
theorem dX12_fewest_85 : decode cX12_fewest 85 = .ok (.iload_n 1, 1) := by decide +kernel
theorem dX12_fewest_86 : decode cX12_fewest 86 = .ok (.iconst 1, 1) := by decide +kernel
theorem dX12_fewest_87 : decode cX12_fewest 87 = .ok (.if_icmp .ne 7, 3) := by decide +kernel
theorem dX12_fewest_90 : decode cX12_fewest 90 = .ok (.iconst 1, 1) := by decide +kernel
theorem dX12_fewest_91 : decode cX12_fewest 91 = .ok (.goto 4, 3) := by decide +kernel
theorem dX12_fewest_94 : decode cX12_fewest 94 = .ok (.iconst 0, 1) := by decide +kernel
theorem dX12_fewest_95 : decode cX12_fewest 95 = .ok (.invokevirtual 356, 3) := by decide +kernel
theorem dX12_fewest_98 : decode cX12_fewest 98 = .ok (.iload 5, 2) := by decide +kernel
theorem dX12_fewest_100 : decode cX12_fewest 100 = .ok (.ior, 1) := by decide +kernel
theorem dX12_fewest_101 : decode cX12_fewest 101 = .ok (.aload_n 0, 1) := by decide +kernel
theorem dX12_fewest_102 : decode cX12_fewest 102 = .ok (.invokevirtual 350, 3) := by decide +kernel
theorem dX12_fewest_105 : decode cX12_fewest 105 = .ok (.if_icmp .ne 7, 3) := by decide +kernel
theorem dX12_fewest_108 : decode cX12_fewest 108 = .ok (.iload 5, 2) := by decide +kernel
theorem dX12_fewest_110 : decode cX12_fewest 110 = .ok (.istore 4, 2) := by decide +kernel
theorem dX12_fewest_112 : decode cX12_fewest 112 = .ok (.iinc 5 1, 3) := by decide +kernel
theorem dX12_fewest_115 : decode cX12_fewest 115 = .ok (.goto (-73), 3) := by decide +kernel
theorem dX12_fewest_118 : decode cX12_fewest 118 = .ok (.iload_n 2, 1) := by decide +kernel
theorem dX12_fewest_119 : decode cX12_fewest 119 = .ok (.ifCond .ne 11, 3) := by decide +kernel
theorem dX12_fewest_122 : decode cX12_fewest 122 = .ok (.iload 4, 2) := by decide +kernel
theorem dX12_fewest_124 : decode cX12_fewest 124 = .ok (.invokestatic 157, 3) := by decide +kernel
theorem dX12_fewest_127 : decode cX12_fewest 127 = .ok (.goto 5, 3) := by decide +kernel
theorem dX12_fewest_130 : decode cX12_fewest 130 = .ok (.iload 4, 2) := by decide +kernel
theorem dX12_fewest_132 : decode cX12_fewest 132 = .ok (.ireturn, 1) := by decide +kernel
set_option maxRecDepth 20000 in
theorem ggX12_tight_X12_isField : GoodIn wsX12_tight wsX12_isField := goodIn_r _ [6, 7, 61, 62, 63, 64, 65, 66, 67, 68, 69, 70, 71, 72, 73, 74, 75, 76, 77, 78, 79, 80, 81, 82, 83, 84, 85, 86, 87, 88, 89, 90] (by decide +kernel) (by decide +kernel)
set_option maxRecDepth 20000 in
theorem gX12_tight_X12_isField : GoodIn wsX12_tight (wsV RX12 151 RX12 yX12_isField wsX12_isField) := goodIn_app (goodIn_of _ (by decide +kernel)) ggX12_tight_X12_isField
set_option maxRecDepth 20000 in
theorem ggX12_tight_X12_layOccupied : GoodIn wsX12_tight wsX12_layOccupied := goodIn_r _ [11, 12, 7, 13, 14, 15, 5, 16, 17, 2, 3, 4, 6, 18, 19, 20, 21, 1, 22, 23, 24, 61, 62, 63, 64, 65, 66, 67, 68, 69, 70, 71, 72, 73, 74, 75, 76, 77, 78, 79, 80, 81, 82, 83, 84, 85, 86, 87, 88, 89, 90] (by decide +kernel) (by decide +kernel)
set_option maxRecDepth 20000 in
theorem gX12_tight_X12_layOccupied : GoodIn wsX12_tight (wsV RX12 329 RX12 yX12_layOccupied wsX12_layOccupied) := goodIn_app (goodIn_of _ (by decide +kernel)) ggX12_tight_X12_layOccupied
set_option maxRecDepth 20000 in
theorem ggX12_tight_X12_putAside : GoodIn wsX12_tight wsX12_putAside := goodIn_r _ [28, 29, 1, 61, 62, 63, 64, 65, 66, 67, 68, 69, 70, 71, 72, 73, 74, 75, 76, 77, 78, 79, 80, 81, 82, 83, 84, 85, 86, 87, 88, 89, 90] (by decide +kernel) (by decide +kernel)
set_option maxRecDepth 20000 in
theorem gX12_tight_X12_putAside : GoodIn wsX12_tight (wsV RX12 341 RX12 yX12_putAside wsX12_putAside) := goodIn_app (goodIn_of _ (by decide +kernel)) ggX12_tight_X12_putAside
set_option maxRecDepth 20000 in
theorem ggX12_tight_X12_unknownOnes : GoodIn wsX12_tight wsX12_unknownOnes := goodIn_r _ [33, 34, 35, 36, 5, 37, 7, 38, 39, 40, 41, 42, 43, 44, 45, 1, 61, 62, 63, 64, 65, 66, 67, 68, 69, 70, 71, 72, 73, 74, 75, 76, 77, 78, 79, 80, 81, 82, 83, 84, 85, 86, 87, 88, 89, 90] (by decide +kernel) (by decide +kernel)
set_option maxRecDepth 20000 in
theorem gX12_tight_X12_unknownOnes : GoodIn wsX12_tight (wsV RX12 332 RX12 yX12_unknownOnes wsX12_unknownOnes) := goodIn_app (goodIn_of _ (by decide +kernel)) ggX12_tight_X12_unknownOnes
set_option maxRecDepth 20000 in
theorem ggX12_tight_X12_remaining : GoodIn wsX12_tight wsX12_remaining := goodIn_r _ [49, 13, 14, 15, 5, 16, 17, 2, 3, 4, 6, 7, 50, 51, 52, 53, 12, 54, 1, 55, 56, 22, 23, 24, 61, 62, 63, 64, 65, 66, 67, 68, 69, 70, 71, 72, 73, 74, 75, 76, 77, 78, 79, 80, 81, 82, 83, 84, 85, 86, 87, 88, 89, 90] (by decide +kernel) (by decide +kernel)
set_option maxRecDepth 20000 in
theorem gX12_tight_X12_remaining : GoodIn wsX12_tight (wsV RX12 335 RX12 yX12_remaining wsX12_remaining) := goodIn_app (goodIn_of _ (by decide +kernel)) ggX12_tight_X12_remaining
set_option maxRecDepth 20000 in
theorem ggX12_tight_X12_bringBack : GoodIn wsX12_tight wsX12_bringBack := goodIn_r _ [60, 1, 29, 61, 62, 63, 64, 65, 66, 67, 68, 69, 70, 71, 72, 73, 74, 75, 76, 77, 78, 79, 80, 81, 82, 83, 84, 85, 86, 87, 88, 89, 90] (by decide +kernel) (by decide +kernel)
set_option maxRecDepth 20000 in
theorem gX12_tight_X12_bringBack : GoodIn wsX12_tight (wsV RX12 344 RX12 yX12_bringBack wsX12_bringBack) := goodIn_app (goodIn_of _ (by decide +kernel)) ggX12_tight_X12_bringBack
theorem dX12_tight_0 : decode cX12_tight 0 = .ok (.aload_n 0, 1) := by decide +kernel
theorem dX12_tight_1 : decode cX12_tight 1 = .ok (.invokevirtual 151, 3) := by decide +kernel
theorem dX12_tight_4 : decode cX12_tight 4 = .ok (.ifCond .ne 5, 3) := by decide +kernel
theorem dX12_tight_7 : decode cX12_tight 7 = .ok (.iconst (-1), 1) := by decide +kernel
theorem dX12_tight_8 : decode cX12_tight 8 = .ok (.ireturn, 1) := by decide +kernel
theorem dX12_tight_9 : decode cX12_tight 9 = .ok (.aload_n 0, 1) := by decide +kernel
theorem dX12_tight_10 : decode cX12_tight 10 = .ok (.invokevirtual 329, 3) := by decide +kernel
theorem dX12_tight_13 : decode cX12_tight 13 = .ok (.iconst (-1), 1) := by decide +kernel
theorem dX12_tight_14 : decode cX12_tight 14 = .ok (.istore_n 1, 1) := by decide +kernel
theorem dX12_tight_15 : decode cX12_tight 15 = .ok (.bipush 99, 2) := by decide +kernel
theorem dX12_tight_17 : decode cX12_tight 17 = .ok (.istore_n 2, 1) := by decide +kernel
theorem dX12_tight_18 : decode cX12_tight 18 = .ok (.iload_n 2, 1) := by decide +kernel
theorem dX12_tight_19 : decode cX12_tight 19 = .ok (.ifCond .le 47, 3) := by decide +kernel
theorem dX12_tight_22 : decode cX12_tight 22 = .ok (.iload_n 1, 1) := by decide +kernel
theorem dX12_tight_23 : decode cX12_tight 23 = .ok (.iconst (-1), 1) := by decide +kernel
theorem dX12_tight_24 : decode cX12_tight 24 = .ok (.if_icmp .ne 42, 3) := by decide +kernel
theorem dX12_tight_27 : decode cX12_tight 27 = .ok (.aload_n 0, 1) := by decide +kernel
theorem dX12_tight_28 : decode cX12_tight 28 = .ok (.invokevirtual 341, 3) := by decide +kernel
theorem dX12_tight_31 : decode cX12_tight 31 = .ok (.aload_n 0, 1) := by decide +kernel
theorem dX12_tight_32 : decode cX12_tight 32 = .ok (.getfield 37, 3) := by decide +kernel
theorem dX12_tight_35 : decode cX12_tight 35 = .ok (.bipush 30, 2) := by decide +kernel
theorem dX12_tight_37 : decode cX12_tight 37 = .ok (.iload_n 2, 1) := by decide +kernel
theorem dX12_tight_38 : decode cX12_tight 38 = .ok (.iastore, 1) := by decide +kernel
theorem dX12_tight_39 : decode cX12_tight 39 = .ok (.aload_n 0, 1) := by decide +kernel
theorem dX12_tight_40 : decode cX12_tight 40 = .ok (.aload_n 0, 1) := by decide +kernel
theorem dX12_tight_41 : decode cX12_tight 41 = .ok (.invokevirtual 332, 3) := by decide +kernel
theorem dX12_tight_44 : decode cX12_tight 44 = .ok (.invokevirtual 335, 3) := by decide +kernel
theorem dX12_tight_47 : decode cX12_tight 47 = .ok (.ifCond .ne 7, 3) := by decide +kernel
theorem dX12_tight_50 : decode cX12_tight 50 = .ok (.iload_n 2, 1) := by decide +kernel
theorem dX12_tight_51 : decode cX12_tight 51 = .ok (.goto 4, 3) := by decide +kernel
theorem dX12_tight_54 : decode cX12_tight 54 = .ok (.iconst (-1), 1) := by decide +kernel
theorem dX12_tight_55 : decode cX12_tight 55 = .ok (.istore_n 1, 1) := by decide +kernel
theorem dX12_tight_56 : decode cX12_tight 56 = .ok (.aload_n 0, 1) := by decide +kernel
theorem dX12_tight_57 : decode cX12_tight 57 = .ok (.invokevirtual 344, 3) := by decide +kernel
theorem dX12_tight_60 : decode cX12_tight 60 = .ok (.iinc 2 (-1), 3) := by decide +kernel
theorem dX12_tight_63 : decode cX12_tight 63 = .ok (.goto (-45), 3) := by decide +kernel
theorem dX12_tight_66 : decode cX12_tight 66 = .ok (.iload_n 1, 1) := by decide +kernel
theorem dX12_tight_67 : decode cX12_tight 67 = .ok (.ireturn, 1) := by decide +kernel
set_option maxRecDepth 20000 in
theorem ggX12_isFast_X12_slotMany : GoodIn wsX12_isFast wsX12_slotMany := goodIn_r _ [5, 6, 7, 8, 9, 4, 10, 11, 24, 25, 26, 27, 28, 29, 30, 31, 32, 33, 34, 35, 36, 37, 38, 39, 40, 41, 42, 43, 44, 45, 46, 47, 48, 49, 50, 51, 52, 53] (by decide +kernel) (by decide +kernel)
set_option maxRecDepth 20000 in
theorem gX12_isFast_X12_slotMany : GoodIn wsX12_isFast (wsV RX12 154 RX12 yX12_slotMany wsX12_slotMany) := goodIn_app (goodIn_of _ (by decide +kernel)) ggX12_isFast_X12_slotMany
set_option maxRecDepth 20000 in
theorem ggX12_isFast_X12_clearBy : GoodIn wsX12_isFast wsX12_clearBy := goodIn_r _ [15, 16, 17, 18, 11, 6, 19, 20, 21, 22, 4, 23, 24, 25, 26, 27, 28, 29, 30, 31, 32, 33, 34, 35, 36, 37, 38, 39, 40, 41, 42, 43, 44, 45, 46, 47, 48, 49, 50, 51, 52, 53] (by decide +kernel) (by decide +kernel)
set_option maxRecDepth 20000 in
theorem gX12_isFast_X12_clearBy : GoodIn wsX12_isFast (wsV RX12 353 RX12 yX12_clearBy wsX12_clearBy) := goodIn_app (goodIn_of _ (by decide +kernel)) ggX12_isFast_X12_clearBy
theorem dX12_isFast_0 : decode cX12_isFast 0 = .ok (.iconst 0, 1) := by decide +kernel
theorem dX12_isFast_1 : decode cX12_isFast 1 = .ok (.istore_n 2, 1) := by decide +kernel
theorem dX12_isFast_2 : decode cX12_isFast 2 = .ok (.iconst 0, 1) := by decide +kernel
theorem dX12_isFast_3 : decode cX12_isFast 3 = .ok (.istore_n 3, 1) := by decide +kernel
theorem dX12_isFast_4 : decode cX12_isFast 4 = .ok (.iload_n 3, 1) := by decide +kernel
theorem dX12_isFast_5 : decode cX12_isFast 5 = .ok (.aload_n 0, 1) := by decide +kernel
theorem dX12_isFast_6 : decode cX12_isFast 6 = .ok (.invokevirtual 154, 3) := by decide +kernel
theorem dX12_isFast_9 : decode cX12_isFast 9 = .ok (.if_icmp .ge 18, 3) := by decide +kernel
theorem dX12_isFast_12 : decode cX12_isFast 12 = .ok (.iload_n 2, 1) := by decide +kernel
theorem dX12_isFast_13 : decode cX12_isFast 13 = .ok (.aload_n 0, 1) := by decide +kernel
theorem dX12_isFast_14 : decode cX12_isFast 14 = .ok (.iload_n 3, 1) := by decide +kernel
theorem dX12_isFast_15 : decode cX12_isFast 15 = .ok (.iload_n 1, 1) := by decide +kernel
theorem dX12_isFast_16 : decode cX12_isFast 16 = .ok (.invokevirtual 353, 3) := by decide +kernel
theorem dX12_isFast_19 : decode cX12_isFast 19 = .ok (.ior, 1) := by decide +kernel
theorem dX12_isFast_20 : decode cX12_isFast 20 = .ok (.istore_n 2, 1) := by decide +kernel
theorem dX12_isFast_21 : decode cX12_isFast 21 = .ok (.iinc 3 1, 3) := by decide +kernel
theorem dX12_isFast_24 : decode cX12_isFast 24 = .ok (.goto (-20), 3) := by decide +kernel
theorem dX12_isFast_27 : decode cX12_isFast 27 = .ok (.iload_n 2, 1) := by decide +kernel
theorem dX12_isFast_28 : decode cX12_isFast 28 = .ok (.ifCond .ne 7, 3) := by decide +kernel
theorem dX12_isFast_31 : decode cX12_isFast 31 = .ok (.iconst 1, 1) := by decide +kernel
theorem dX12_isFast_32 : decode cX12_isFast 32 = .ok (.goto 4, 3) := by decide +kernel
theorem dX12_isFast_35 : decode cX12_isFast 35 = .ok (.iconst 0, 1) := by decide +kernel
theorem dX12_isFast_36 : decode cX12_isFast 36 = .ok (.ireturn, 1) := by decide +kernel
set_option maxRecDepth 20000 in
theorem ggX12_stuck_X12_isField : GoodIn wsX12_stuck wsX12_isField := goodIn_r _ [5, 6, 58, 59, 60, 61, 62, 63, 64, 65, 66, 67, 68, 69, 70, 71, 72, 73, 74, 75, 76, 77, 78, 79, 80, 81, 82, 83, 84, 85, 86, 87] (by decide +kernel) (by decide +kernel)
set_option maxRecDepth 20000 in
theorem gX12_stuck_X12_isField : GoodIn wsX12_stuck (wsV RX12 151 RX12 yX12_isField wsX12_isField) := goodIn_app (goodIn_of _ (by decide +kernel)) ggX12_stuck_X12_isField
set_option maxRecDepth 20000 in
theorem ggX12_stuck_X12_in : GoodIn wsX12_stuck wsX12_in := goodIn_r _ [9] (by decide +kernel) (by decide +kernel)
set_option maxRecDepth 20000 in
theorem gX12_stuck_X12_in : GoodIn wsX12_stuck (va_wsS RX12 76 yX12_in wsX12_in) := goodIn_app (goodIn_of _ (by decide +kernel)) ggX12_stuck_X12_in
set_option maxRecDepth 20000 in
theorem ggX12_stuck_X12_layOccupied : GoodIn wsX12_stuck wsX12_layOccupied := goodIn_r _ [13, 14, 6, 15, 16, 17, 4, 18, 19, 1, 2, 3, 5, 20, 21, 22, 23, 24, 25, 26, 27, 58, 59, 60, 61, 62, 63, 64, 65, 66, 67, 68, 69, 70, 71, 72, 73, 74, 75, 76, 77, 78, 79, 80, 81, 82, 83, 84, 85, 86, 87] (by decide +kernel) (by decide +kernel)
set_option maxRecDepth 20000 in
theorem gX12_stuck_X12_layOccupied : GoodIn wsX12_stuck (wsV RX12 329 RX12 yX12_layOccupied wsX12_layOccupied) := goodIn_app (goodIn_of _ (by decide +kernel)) ggX12_stuck_X12_layOccupied
set_option maxRecDepth 20000 in
theorem ggX12_stuck_X12_unknownOnes : GoodIn wsX12_stuck wsX12_unknownOnes := goodIn_r _ [31, 32, 33, 34, 4, 35, 6, 36, 37, 38, 39, 40, 41, 42, 43, 24, 58, 59, 60, 61, 62, 63, 64, 65, 66, 67, 68, 69, 70, 71, 72, 73, 74, 75, 76, 77, 78, 79, 80, 81, 82, 83, 84, 85, 86, 87] (by decide +kernel) (by decide +kernel)
set_option maxRecDepth 20000 in
theorem gX12_stuck_X12_unknownOnes : GoodIn wsX12_stuck (wsV RX12 332 RX12 yX12_unknownOnes wsX12_unknownOnes) := goodIn_app (goodIn_of _ (by decide +kernel)) ggX12_stuck_X12_unknownOnes
set_option maxRecDepth 20000 in
theorem ggX12_stuck_X12_isFast : GoodIn wsX12_stuck wsX12_isFast := goodIn_r _ [47, 15, 16, 17, 4, 18, 19, 1, 2, 3, 5, 6, 48, 49, 50, 51, 14, 52, 24, 53, 54, 25, 26, 27, 58, 59, 60, 61, 62, 63, 64, 65, 66, 67, 68, 69, 70, 71, 72, 73, 74, 75, 76, 77, 78, 79, 80, 81, 82, 83, 84, 85, 86, 87] (by decide +kernel) (by decide +kernel)
set_option maxRecDepth 20000 in
theorem gX12_stuck_X12_isFast : GoodIn wsX12_stuck (wsV RX12 360 RX12 yX12_isFast wsX12_isFast) := goodIn_app (goodIn_of _ (by decide +kernel)) ggX12_stuck_X12_isFast
set_option maxRecDepth 20000 in
theorem ggX12_stuck_X12_bits : GoodIn wsX12_stuck wsX12_bits := goodIn_r _ [57] (by decide +kernel) (by decide +kernel)
set_option maxRecDepth 20000 in
theorem gX12_stuck_X12_bits : GoodIn wsX12_stuck (va_wsS RX12 157 yX12_bits wsX12_bits) := goodIn_app (goodIn_of _ (by decide +kernel)) ggX12_stuck_X12_bits
theorem dX12_stuck_0 : decode cX12_stuck 0 = .ok (.aload_n 0, 1) := by decide +kernel
theorem dX12_stuck_1 : decode cX12_stuck 1 = .ok (.invokevirtual 151, 3) := by decide +kernel
theorem dX12_stuck_4 : decode cX12_stuck 4 = .ok (.ifCond .eq 12, 3) := by decide +kernel
theorem dX12_stuck_7 : decode cX12_stuck 7 = .ok (.iload_n 1, 1) := by decide +kernel
theorem dX12_stuck_8 : decode cX12_stuck 8 = .ok (.iconst 0, 1) := by decide +kernel
theorem dX12_stuck_9 : decode cX12_stuck 9 = .ok (.iconst 3, 1) := by decide +kernel
theorem dX12_stuck_10 : decode cX12_stuck 10 = .ok (.invokestatic 76, 3) := by decide +kernel
theorem dX12_stuck_13 : decode cX12_stuck 13 = .ok (.ifCond .ne 5, 3) := by decide +kernel
theorem dX12_stuck_16 : decode cX12_stuck 16 = .ok (.iconst (-1), 1) := by decide +kernel
theorem dX12_stuck_17 : decode cX12_stuck 17 = .ok (.ireturn, 1) := by decide +kernel
theorem dX12_stuck_18 : decode cX12_stuck 18 = .ok (.aload_n 0, 1) := by decide +kernel
theorem dX12_stuck_19 : decode cX12_stuck 19 = .ok (.invokevirtual 329, 3) := by decide +kernel
theorem dX12_stuck_22 : decode cX12_stuck 22 = .ok (.aload_n 0, 1) := by decide +kernel
theorem dX12_stuck_23 : decode cX12_stuck 23 = .ok (.invokevirtual 332, 3) := by decide +kernel
theorem dX12_stuck_26 : decode cX12_stuck 26 = .ok (.istore_n 2, 1) := by decide +kernel
theorem dX12_stuck_27 : decode cX12_stuck 27 = .ok (.iconst 0, 1) := by decide +kernel
theorem dX12_stuck_28 : decode cX12_stuck 28 = .ok (.istore_n 3, 1) := by decide +kernel
theorem dX12_stuck_29 : decode cX12_stuck 29 = .ok (.iconst 0, 1) := by decide +kernel
theorem dX12_stuck_30 : decode cX12_stuck 30 = .ok (.istore 4, 2) := by decide +kernel
theorem dX12_stuck_32 : decode cX12_stuck 32 = .ok (.iconst 0, 1) := by decide +kernel
theorem dX12_stuck_33 : decode cX12_stuck 33 = .ok (.istore 5, 2) := by decide +kernel
theorem dX12_stuck_35 : decode cX12_stuck 35 = .ok (.iconst 1, 1) := by decide +kernel
theorem dX12_stuck_36 : decode cX12_stuck 36 = .ok (.istore 6, 2) := by decide +kernel
theorem dX12_stuck_38 : decode cX12_stuck 38 = .ok (.iload 6, 2) := by decide +kernel
theorem dX12_stuck_40 : decode cX12_stuck 40 = .ok (.iload_n 2, 1) := by decide +kernel
theorem dX12_stuck_41 : decode cX12_stuck 41 = .ok (.if_icmp .gt 76, 3) := by decide +kernel
theorem dX12_stuck_44 : decode cX12_stuck 44 = .ok (.iload 6, 2) := by decide +kernel
theorem dX12_stuck_46 : decode cX12_stuck 46 = .ok (.iload_n 2, 1) := by decide +kernel
theorem dX12_stuck_47 : decode cX12_stuck 47 = .ok (.iconst (-1), 1) := by decide +kernel
theorem dX12_stuck_48 : decode cX12_stuck 48 = .ok (.ixor, 1) := by decide +kernel
theorem dX12_stuck_49 : decode cX12_stuck 49 = .ok (.iand, 1) := by decide +kernel
theorem dX12_stuck_50 : decode cX12_stuck 50 = .ok (.ifCond .ne 61, 3) := by decide +kernel
theorem dX12_stuck_53 : decode cX12_stuck 53 = .ok (.aload_n 0, 1) := by decide +kernel
theorem dX12_stuck_54 : decode cX12_stuck 54 = .ok (.iload 6, 2) := by decide +kernel
theorem dX12_stuck_56 : decode cX12_stuck 56 = .ok (.invokevirtual 360, 3) := by decide +kernel
theorem dX12_stuck_59 : decode cX12_stuck 59 = .ok (.ifCond .eq 52, 3) := by decide +kernel
theorem dX12_stuck_62 : decode cX12_stuck 62 = .ok (.iload 5, 2) := by decide +kernel
theorem dX12_stuck_64 : decode cX12_stuck 64 = .ok (.ifCond .eq 15, 3) := by decide +kernel
theorem dX12_stuck_67 : decode cX12_stuck 67 = .ok (.iload 6, 2) := by decide +kernel
theorem dX12_stuck_69 : decode cX12_stuck 69 = .ok (.invokestatic 157, 3) := by decide +kernel
theorem dX12_stuck_72 : decode cX12_stuck 72 = .ok (.iload_n 3, 1) := by decide +kernel
theorem dX12_stuck_73 : decode cX12_stuck 73 = .ok (.invokestatic 157, 3) := by decide +kernel
theorem dX12_stuck_76 : decode cX12_stuck 76 = .ok (.if_icmp .ge 8, 3) := by decide +kernel
theorem dX12_stuck_79 : decode cX12_stuck 79 = .ok (.iload 6, 2) := by decide +kernel
theorem dX12_stuck_81 : decode cX12_stuck 81 = .ok (.goto 4, 3) := by decide +kernel
theorem dX12_stuck_84 : decode cX12_stuck 84 = .ok (.iload_n 3, 1) := by decide +kernel
theorem dX12_stuck_85 : decode cX12_stuck 85 = .ok (.istore_n 3, 1) := by decide +kernel
theorem dX12_stuck_86 : decode cX12_stuck 86 = .ok (.iload 6, 2) := by decide +kernel
theorem dX12_stuck_88 : decode cX12_stuck 88 = .ok (.invokestatic 157, 3) := by decide +kernel
theorem dX12_stuck_91 : decode cX12_stuck 91 = .ok (.iload 4, 2) := by decide +kernel
theorem dX12_stuck_93 : decode cX12_stuck 93 = .ok (.invokestatic 157, 3) := by decide +kernel
theorem dX12_stuck_96 : decode cX12_stuck 96 = .ok (.if_icmp .le 8, 3) := by decide +kernel
theorem dX12_stuck_99 : decode cX12_stuck 99 = .ok (.iload 6, 2) := by decide +kernel
theorem dX12_stuck_101 : decode cX12_stuck 101 = .ok (.goto 5, 3) := by decide +kernel
theorem dX12_stuck_104 : decode cX12_stuck 104 = .ok (.iload 4, 2) := by decide +kernel
theorem dX12_stuck_106 : decode cX12_stuck 106 = .ok (.istore 4, 2) := by decide +kernel
theorem dX12_stuck_108 : decode cX12_stuck 108 = .ok (.iinc 5 1, 3) := by decide +kernel
theorem dX12_stuck_111 : decode cX12_stuck 111 = .ok (.iinc 6 1, 3) := by decide +kernel
theorem dX12_stuck_114 : decode cX12_stuck 114 = .ok (.goto (-76), 3) := by decide +kernel
theorem dX12_stuck_117 : decode cX12_stuck 117 = .ok (.iload_n 1, 1) := by decide +kernel
theorem dX12_stuck_118 : decode cX12_stuck 118 = .ok (.ifCond .ne 10, 3) := by decide +kernel
theorem dX12_stuck_121 : decode cX12_stuck 121 = .ok (.iload_n 3, 1) := by decide +kernel
theorem dX12_stuck_122 : decode cX12_stuck 122 = .ok (.invokestatic 157, 3) := by decide +kernel
theorem dX12_stuck_125 : decode cX12_stuck 125 = .ok (.goto 24, 3) := by decide +kernel
theorem dX12_stuck_128 : decode cX12_stuck 128 = .ok (.iload_n 1, 1) := by decide +kernel
theorem dX12_stuck_129 : decode cX12_stuck 129 = .ok (.iconst 1, 1) := by decide +kernel
theorem dX12_stuck_130 : decode cX12_stuck 130 = .ok (.if_icmp .ne 7, 3) := by decide +kernel
theorem dX12_stuck_133 : decode cX12_stuck 133 = .ok (.iload_n 3, 1) := by decide +kernel
theorem dX12_stuck_134 : decode cX12_stuck 134 = .ok (.goto 15, 3) := by decide +kernel
theorem dX12_stuck_137 : decode cX12_stuck 137 = .ok (.iload_n 1, 1) := by decide +kernel
theorem dX12_stuck_138 : decode cX12_stuck 138 = .ok (.iconst 2, 1) := by decide +kernel
theorem dX12_stuck_139 : decode cX12_stuck 139 = .ok (.if_icmp .ne 8, 3) := by decide +kernel
theorem dX12_stuck_142 : decode cX12_stuck 142 = .ok (.iload 5, 2) := by decide +kernel
theorem dX12_stuck_144 : decode cX12_stuck 144 = .ok (.goto 5, 3) := by decide +kernel
theorem dX12_stuck_147 : decode cX12_stuck 147 = .ok (.iload 4, 2) := by decide +kernel
theorem dX12_stuck_149 : decode cX12_stuck 149 = .ok (.ireturn, 1) := by decide +kernel
set_option maxRecDepth 20000 in
theorem ggX12_slide_X12_putAside : GoodIn wsX12_slide wsX12_putAside := goodIn_r _ [8, 9, 10, 68, 69, 70, 71, 72, 73, 74, 75, 76, 77, 78, 79, 80, 81, 82, 83, 84, 85, 86, 87, 88, 89, 90, 91, 92, 93, 94, 95, 96, 97] (by decide +kernel) (by decide +kernel)
set_option maxRecDepth 20000 in
theorem gX12_slide_X12_putAside : GoodIn wsX12_slide (wsV RX12 341 RX12 yX12_putAside wsX12_putAside) := goodIn_app (goodIn_of _ (by decide +kernel)) ggX12_slide_X12_putAside
set_option maxRecDepth 20000 in
theorem ggX12_slide_X12_isUnknown : GoodIn wsX12_slide wsX12_isUnknown := goodIn_r _ [14, 10, 68, 69, 70, 71, 72, 73, 74, 75, 76, 77, 78, 79, 80, 81, 82, 83, 84, 85, 86, 87, 88, 89, 90, 91, 92, 93, 94, 95, 96, 97] (by decide +kernel) (by decide +kernel)
set_option maxRecDepth 20000 in
theorem gX12_slide_X12_isUnknown : GoodIn wsX12_slide (wsV RX12 178 RX12 yX12_isUnknown wsX12_isUnknown) := goodIn_app (goodIn_of _ (by decide +kernel)) ggX12_slide_X12_isUnknown
set_option maxRecDepth 20000 in
theorem ggX12_slide_X12_peelNow : GoodIn wsX12_slide wsX12_peelNow := goodIn_r _ [18, 10, 19, 20, 21, 7, 22, 23, 24, 25, 26, 1, 27, 28, 29, 30, 31, 32, 11, 12, 13, 14, 33, 34, 35, 36, 37, 38, 39, 40, 41, 42, 43, 44, 45, 46, 47, 48, 49, 50, 51, 52, 3, 53, 54, 55, 56, 57, 58, 59, 68, 69, 70, 71, 72, 73, 74, 75, 76, 77, 78, 79, 80, 81, 82, 83, 84, 85, 86, 87, 88, 89, 90, 91, 92, 93, 94, 95, 96, 97] (by decide +kernel) (by decide +kernel)
set_option maxRecDepth 20000 in
theorem gX12_slide_X12_peelNow : GoodIn wsX12_slide (wsV RX12 273 RX12 yX12_peelNow wsX12_peelNow) := goodIn_app (goodIn_of _ (by decide +kernel)) ggX12_slide_X12_peelNow
set_option maxRecDepth 20000 in
theorem ggX12_slide_X12_knownSet : GoodIn wsX12_slide wsX12_knownSet := goodIn_r _ [63, 1, 11, 12, 13, 7, 14, 10, 68, 69, 70, 71, 72, 73, 74, 75, 76, 77, 78, 79, 80, 81, 82, 83, 84, 85, 86, 87, 88, 89, 90, 91, 92, 93, 94, 95, 96, 97] (by decide +kernel) (by decide +kernel)
set_option maxRecDepth 20000 in
theorem gX12_slide_X12_knownSet : GoodIn wsX12_slide (wsV RX12 213 RX12 yX12_knownSet wsX12_knownSet) := goodIn_app (goodIn_of _ (by decide +kernel)) ggX12_slide_X12_knownSet
set_option maxRecDepth 20000 in
theorem ggX12_slide_X12_bringBack : GoodIn wsX12_slide wsX12_bringBack := goodIn_r _ [67, 10, 9, 68, 69, 70, 71, 72, 73, 74, 75, 76, 77, 78, 79, 80, 81, 82, 83, 84, 85, 86, 87, 88, 89, 90, 91, 92, 93, 94, 95, 96, 97] (by decide +kernel) (by decide +kernel)
set_option maxRecDepth 20000 in
theorem gX12_slide_X12_bringBack : GoodIn wsX12_slide (wsV RX12 344 RX12 yX12_bringBack wsX12_bringBack) := goodIn_app (goodIn_of _ (by decide +kernel)) ggX12_slide_X12_bringBack
theorem dX12_slide_0 : decode cX12_slide 0 = .ok (.aload_n 0, 1) := by decide +kernel
theorem dX12_slide_1 : decode cX12_slide 1 = .ok (.invokevirtual 341, 3) := by decide +kernel
theorem dX12_slide_4 : decode cX12_slide 4 = .ok (.iconst 0, 1) := by decide +kernel
theorem dX12_slide_5 : decode cX12_slide 5 = .ok (.istore_n 2, 1) := by decide +kernel
theorem dX12_slide_6 : decode cX12_slide 6 = .ok (.iload_n 2, 1) := by decide +kernel
theorem dX12_slide_7 : decode cX12_slide 7 = .ok (.aload_n 0, 1) := by decide +kernel
theorem dX12_slide_8 : decode cX12_slide 8 = .ok (.getfield 148, 3) := by decide +kernel
theorem dX12_slide_11 : decode cX12_slide 11 = .ok (.if_icmp .ge 29, 3) := by decide +kernel
theorem dX12_slide_14 : decode cX12_slide 14 = .ok (.aload_n 0, 1) := by decide +kernel
theorem dX12_slide_15 : decode cX12_slide 15 = .ok (.getfield 59, 3) := by decide +kernel
theorem dX12_slide_18 : decode cX12_slide 18 = .ok (.iload_n 2, 1) := by decide +kernel
theorem dX12_slide_19 : decode cX12_slide 19 = .ok (.aload_n 0, 1) := by decide +kernel
theorem dX12_slide_20 : decode cX12_slide 20 = .ok (.iload_n 2, 1) := by decide +kernel
theorem dX12_slide_21 : decode cX12_slide 21 = .ok (.invokevirtual 178, 3) := by decide +kernel
theorem dX12_slide_24 : decode cX12_slide 24 = .ok (.ifCond .eq 7, 3) := by decide +kernel
theorem dX12_slide_27 : decode cX12_slide 27 = .ok (.iconst (-1), 1) := by decide +kernel
theorem dX12_slide_28 : decode cX12_slide 28 = .ok (.goto 5, 3) := by decide +kernel
theorem dX12_slide_31 : decode cX12_slide 31 = .ok (.bipush (-2), 2) := by decide +kernel
theorem dX12_slide_33 : decode cX12_slide 33 = .ok (.iastore, 1) := by decide +kernel
theorem dX12_slide_34 : decode cX12_slide 34 = .ok (.iinc 2 1, 3) := by decide +kernel
theorem dX12_slide_37 : decode cX12_slide 37 = .ok (.goto (-31), 3) := by decide +kernel
theorem dX12_slide_40 : decode cX12_slide 40 = .ok (.iconst 0, 1) := by decide +kernel
theorem dX12_slide_41 : decode cX12_slide 41 = .ok (.istore_n 2, 1) := by decide +kernel
theorem dX12_slide_42 : decode cX12_slide 42 = .ok (.iload_n 2, 1) := by decide +kernel
theorem dX12_slide_43 : decode cX12_slide 43 = .ok (.iload_n 1, 1) := by decide +kernel
theorem dX12_slide_44 : decode cX12_slide 44 = .ok (.iadd, 1) := by decide +kernel
theorem dX12_slide_45 : decode cX12_slide 45 = .ok (.aload_n 0, 1) := by decide +kernel
theorem dX12_slide_46 : decode cX12_slide 46 = .ok (.getfield 22, 3) := by decide +kernel
theorem dX12_slide_49 : decode cX12_slide 49 = .ok (.iconst 1, 1) := by decide +kernel
theorem dX12_slide_50 : decode cX12_slide 50 = .ok (.iaload, 1) := by decide +kernel
theorem dX12_slide_51 : decode cX12_slide 51 = .ok (.if_icmp .gt 70, 3) := by decide +kernel
theorem dX12_slide_54 : decode cX12_slide 54 = .ok (.aload_n 0, 1) := by decide +kernel
theorem dX12_slide_55 : decode cX12_slide 55 = .ok (.aload_n 0, 1) := by decide +kernel
theorem dX12_slide_56 : decode cX12_slide 56 = .ok (.getfield 22, 3) := by decide +kernel
theorem dX12_slide_59 : decode cX12_slide 59 = .ok (.iconst 0, 1) := by decide +kernel
theorem dX12_slide_60 : decode cX12_slide 60 = .ok (.iaload, 1) := by decide +kernel
theorem dX12_slide_61 : decode cX12_slide 61 = .ok (.iload_n 2, 1) := by decide +kernel
theorem dX12_slide_62 : decode cX12_slide 62 = .ok (.imul, 1) := by decide +kernel
theorem dX12_slide_63 : decode cX12_slide 63 = .ok (.aload_n 0, 1) := by decide +kernel
theorem dX12_slide_64 : decode cX12_slide 64 = .ok (.getfield 22, 3) := by decide +kernel
theorem dX12_slide_67 : decode cX12_slide 67 = .ok (.iconst 0, 1) := by decide +kernel
theorem dX12_slide_68 : decode cX12_slide 68 = .ok (.iaload, 1) := by decide +kernel
theorem dX12_slide_69 : decode cX12_slide 69 = .ok (.iload_n 2, 1) := by decide +kernel
theorem dX12_slide_70 : decode cX12_slide 70 = .ok (.iload_n 1, 1) := by decide +kernel
theorem dX12_slide_71 : decode cX12_slide 71 = .ok (.iadd, 1) := by decide +kernel
theorem dX12_slide_72 : decode cX12_slide 72 = .ok (.imul, 1) := by decide +kernel
theorem dX12_slide_73 : decode cX12_slide 73 = .ok (.invokevirtual 273, 3) := by decide +kernel
theorem dX12_slide_76 : decode cX12_slide 76 = .ok (.istore_n 3, 1) := by decide +kernel
theorem dX12_slide_77 : decode cX12_slide 77 = .ok (.iload_n 3, 1) := by decide +kernel
theorem dX12_slide_78 : decode cX12_slide 78 = .ok (.iconst (-1), 1) := by decide +kernel
theorem dX12_slide_79 : decode cX12_slide 79 = .ok (.if_icmp .eq 36, 3) := by decide +kernel
theorem dX12_slide_82 : decode cX12_slide 82 = .ok (.aload_n 0, 1) := by decide +kernel
theorem dX12_slide_83 : decode cX12_slide 83 = .ok (.getfield 59, 3) := by decide +kernel
theorem dX12_slide_86 : decode cX12_slide 86 = .ok (.iload_n 3, 1) := by decide +kernel
theorem dX12_slide_87 : decode cX12_slide 87 = .ok (.iload_n 2, 1) := by decide +kernel
theorem dX12_slide_88 : decode cX12_slide 88 = .ok (.iastore, 1) := by decide +kernel
theorem dX12_slide_89 : decode cX12_slide 89 = .ok (.aload_n 0, 1) := by decide +kernel
theorem dX12_slide_90 : decode cX12_slide 90 = .ok (.aload_n 0, 1) := by decide +kernel
theorem dX12_slide_91 : decode cX12_slide 91 = .ok (.getfield 22, 3) := by decide +kernel
theorem dX12_slide_94 : decode cX12_slide 94 = .ok (.iconst 0, 1) := by decide +kernel
theorem dX12_slide_95 : decode cX12_slide 95 = .ok (.iaload, 1) := by decide +kernel
theorem dX12_slide_96 : decode cX12_slide 96 = .ok (.iload_n 2, 1) := by decide +kernel
theorem dX12_slide_97 : decode cX12_slide 97 = .ok (.imul, 1) := by decide +kernel
theorem dX12_slide_98 : decode cX12_slide 98 = .ok (.aload_n 0, 1) := by decide +kernel
theorem dX12_slide_99 : decode cX12_slide 99 = .ok (.getfield 22, 3) := by decide +kernel
theorem dX12_slide_102 : decode cX12_slide 102 = .ok (.iconst 0, 1) := by decide +kernel
theorem dX12_slide_103 : decode cX12_slide 103 = .ok (.iaload, 1) := by decide +kernel
theorem dX12_slide_104 : decode cX12_slide 104 = .ok (.iload_n 2, 1) := by decide +kernel
theorem dX12_slide_105 : decode cX12_slide 105 = .ok (.iload_n 1, 1) := by decide +kernel
theorem dX12_slide_106 : decode cX12_slide 106 = .ok (.iadd, 1) := by decide +kernel
theorem dX12_slide_107 : decode cX12_slide 107 = .ok (.imul, 1) := by decide +kernel
theorem dX12_slide_108 : decode cX12_slide 108 = .ok (.invokevirtual 273, 3) := by decide +kernel
theorem dX12_slide_111 : decode cX12_slide 111 = .ok (.istore_n 3, 1) := by decide +kernel
theorem dX12_slide_112 : decode cX12_slide 112 = .ok (.goto (-35), 3) := by decide +kernel
theorem dX12_slide_115 : decode cX12_slide 115 = .ok (.iinc 2 1, 3) := by decide +kernel
theorem dX12_slide_118 : decode cX12_slide 118 = .ok (.goto (-76), 3) := by decide +kernel
theorem dX12_slide_121 : decode cX12_slide 121 = .ok (.aload_n 0, 1) := by decide +kernel
theorem dX12_slide_122 : decode cX12_slide 122 = .ok (.invokevirtual 213, 3) := by decide +kernel
theorem dX12_slide_125 : decode cX12_slide 125 = .ok (.istore_n 2, 1) := by decide +kernel
theorem dX12_slide_126 : decode cX12_slide 126 = .ok (.aload_n 0, 1) := by decide +kernel
theorem dX12_slide_127 : decode cX12_slide 127 = .ok (.invokevirtual 344, 3) := by decide +kernel
theorem dX12_slide_130 : decode cX12_slide 130 = .ok (.iload_n 2, 1) := by decide +kernel
theorem dX12_slide_131 : decode cX12_slide 131 = .ok (.ireturn, 1) := by decide +kernel
set_option maxRecDepth 20000 in
theorem ggX12_slid_X12_isField : GoodIn wsX12_slid wsX12_isField := goodIn_r _ [6, 7, 79, 80, 81, 82, 83, 84, 85, 86, 87, 88, 89, 90, 91, 92, 93, 94, 95, 96, 97, 98, 99, 100, 101, 102, 103, 104, 105, 106, 107, 108] (by decide +kernel) (by decide +kernel)
set_option maxRecDepth 20000 in
theorem gX12_slid_X12_isField : GoodIn wsX12_slid (wsV RX12 151 RX12 yX12_isField wsX12_isField) := goodIn_app (goodIn_of _ (by decide +kernel)) ggX12_slid_X12_isField
set_option maxRecDepth 20000 in
theorem ggX12_slid_X12_in : GoodIn wsX12_slid wsX12_in := goodIn_r _ [10] (by decide +kernel) (by decide +kernel)
set_option maxRecDepth 20000 in
theorem gX12_slid_X12_in : GoodIn wsX12_slid (va_wsS RX12 76 yX12_in wsX12_in) := goodIn_app (goodIn_of _ (by decide +kernel)) ggX12_slid_X12_in
set_option maxRecDepth 20000 in
theorem ggX12_slid_X12_slide : GoodIn wsX12_slid wsX12_slide := goodIn_r _ [14, 7, 15, 1, 16, 17, 18, 5, 19, 20, 21, 22, 23, 24, 25, 26, 27, 28, 29, 30, 31, 32, 33, 34, 35, 36, 37, 38, 39, 40, 41, 42, 43, 44, 45, 46, 47, 48, 49, 50, 51, 52, 53, 54, 55, 56, 57, 58, 59, 60, 61, 62, 63, 64, 65, 66, 67, 68, 69, 70, 71, 72, 73, 74, 75, 76, 77, 78, 79, 80, 81, 82, 83, 84, 85, 86, 87, 88, 89, 90, 91, 92, 93, 94, 95, 96, 97, 98, 99, 100, 101, 102, 103, 104, 105, 106, 107, 108] (by decide +kernel) (by decide +kernel)
set_option maxRecDepth 20000 in
theorem gX12_slid_X12_slide : GoodIn wsX12_slid (wsV RX12 363 RX12 yX12_slide wsX12_slide) := goodIn_app (goodIn_of _ (by decide +kernel)) ggX12_slid_X12_slide
theorem dX12_slid_0 : decode cX12_slid 0 = .ok (.aload_n 0, 1) := by decide +kernel
theorem dX12_slid_1 : decode cX12_slid 1 = .ok (.invokevirtual 151, 3) := by decide +kernel
theorem dX12_slid_4 : decode cX12_slid 4 = .ok (.ifCond .eq 25, 3) := by decide +kernel
theorem dX12_slid_7 : decode cX12_slid 7 = .ok (.iload_n 1, 1) := by decide +kernel
theorem dX12_slid_8 : decode cX12_slid 8 = .ok (.iconst 1, 1) := by decide +kernel
theorem dX12_slid_9 : decode cX12_slid 9 = .ok (.aload_n 0, 1) := by decide +kernel
theorem dX12_slid_10 : decode cX12_slid 10 = .ok (.getfield 22, 3) := by decide +kernel
theorem dX12_slid_13 : decode cX12_slid 13 = .ok (.iconst 1, 1) := by decide +kernel
theorem dX12_slid_14 : decode cX12_slid 14 = .ok (.iaload, 1) := by decide +kernel
theorem dX12_slid_15 : decode cX12_slid 15 = .ok (.invokestatic 76, 3) := by decide +kernel
theorem dX12_slid_18 : decode cX12_slid 18 = .ok (.ifCond .eq 11, 3) := by decide +kernel
theorem dX12_slid_21 : decode cX12_slid 21 = .ok (.aload_n 0, 1) := by decide +kernel
theorem dX12_slid_22 : decode cX12_slid 22 = .ok (.iload_n 1, 1) := by decide +kernel
theorem dX12_slid_23 : decode cX12_slid 23 = .ok (.invokevirtual 363, 3) := by decide +kernel
theorem dX12_slid_26 : decode cX12_slid 26 = .ok (.goto 4, 3) := by decide +kernel
theorem dX12_slid_29 : decode cX12_slid 29 = .ok (.iconst (-1), 1) := by decide +kernel
theorem dX12_slid_30 : decode cX12_slid 30 = .ok (.ireturn, 1) := by decide +kernel
set_option maxRecDepth 20000 in
theorem ggX12_slidAt_X12_isUser : GoodIn wsX12_slidAt wsX12_isUser := goodIn_r _ [7, 8, 9, 10, 6, 11, 79, 80, 81, 82, 83, 84, 85, 86, 87, 88, 89, 90, 91, 92, 93, 94, 95, 96, 97, 98, 99, 100, 101, 102, 103, 104, 105, 106, 107, 108] (by decide +kernel) (by decide +kernel)
set_option maxRecDepth 20000 in
theorem gX12_slidAt_X12_isUser : GoodIn wsX12_slidAt (wsV RX12 228 RX12 yX12_isUser wsX12_isUser) := goodIn_app (goodIn_of _ (by decide +kernel)) ggX12_slidAt_X12_isUser
set_option maxRecDepth 20000 in
theorem ggX12_slidAt_X12_in : GoodIn wsX12_slidAt wsX12_in := goodIn_r _ [11] (by decide +kernel) (by decide +kernel)
set_option maxRecDepth 20000 in
theorem gX12_slidAt_X12_in : GoodIn wsX12_slidAt (va_wsS RX12 76 yX12_in wsX12_in) := goodIn_app (goodIn_of _ (by decide +kernel)) ggX12_slidAt_X12_in
set_option maxRecDepth 20000 in
theorem ggX12_slidAt_X12_slide : GoodIn wsX12_slidAt wsX12_slide := goodIn_r _ [15, 8, 2, 1, 16, 17, 18, 6, 19, 20, 21, 22, 23, 24, 25, 26, 27, 28, 29, 30, 31, 32, 33, 34, 35, 36, 37, 38, 39, 40, 41, 42, 43, 44, 45, 46, 47, 48, 49, 50, 51, 52, 53, 54, 55, 56, 57, 58, 59, 60, 61, 62, 63, 64, 65, 66, 67, 68, 69, 70, 71, 72, 73, 74, 75, 76, 77, 78, 79, 80, 81, 82, 83, 84, 85, 86, 87, 88, 89, 90, 91, 92, 93, 94, 95, 96, 97, 98, 99, 100, 101, 102, 103, 104, 105, 106, 107, 108] (by decide +kernel) (by decide +kernel)
set_option maxRecDepth 20000 in
theorem gX12_slidAt_X12_slide : GoodIn wsX12_slidAt (wsV RX12 363 RX12 yX12_slide wsX12_slide) := goodIn_app (goodIn_of _ (by decide +kernel)) ggX12_slidAt_X12_slide
theorem dX12_slidAt_0 : decode cX12_slidAt 0 = .ok (.aload_n 0, 1) := by decide +kernel
theorem dX12_slidAt_1 : decode cX12_slidAt 1 = .ok (.iload_n 1, 1) := by decide +kernel
theorem dX12_slidAt_2 : decode cX12_slidAt 2 = .ok (.invokevirtual 228, 3) := by decide +kernel
theorem dX12_slidAt_5 : decode cX12_slidAt 5 = .ok (.ifCond .eq 17, 3) := by decide +kernel
theorem dX12_slidAt_8 : decode cX12_slidAt 8 = .ok (.iload_n 2, 1) := by decide +kernel
theorem dX12_slidAt_9 : decode cX12_slidAt 9 = .ok (.iconst 1, 1) := by decide +kernel
theorem dX12_slidAt_10 : decode cX12_slidAt 10 = .ok (.aload_n 0, 1) := by decide +kernel
theorem dX12_slidAt_11 : decode cX12_slidAt 11 = .ok (.getfield 22, 3) := by decide +kernel
theorem dX12_slidAt_14 : decode cX12_slidAt 14 = .ok (.iconst 1, 1) := by decide +kernel
theorem dX12_slidAt_15 : decode cX12_slidAt 15 = .ok (.iaload, 1) := by decide +kernel
theorem dX12_slidAt_16 : decode cX12_slidAt 16 = .ok (.invokestatic 76, 3) := by decide +kernel
theorem dX12_slidAt_19 : decode cX12_slidAt 19 = .ok (.ifCond .ne 5, 3) := by decide +kernel
theorem dX12_slidAt_22 : decode cX12_slidAt 22 = .ok (.iconst (-1), 1) := by decide +kernel
theorem dX12_slidAt_23 : decode cX12_slidAt 23 = .ok (.ireturn, 1) := by decide +kernel
theorem dX12_slidAt_24 : decode cX12_slidAt 24 = .ok (.aload_n 0, 1) := by decide +kernel
theorem dX12_slidAt_25 : decode cX12_slidAt 25 = .ok (.iload_n 2, 1) := by decide +kernel
theorem dX12_slidAt_26 : decode cX12_slidAt 26 = .ok (.invokevirtual 363, 3) := by decide +kernel
theorem dX12_slidAt_29 : decode cX12_slidAt 29 = .ok (.pop, 1) := by decide +kernel
theorem dX12_slidAt_30 : decode cX12_slidAt 30 = .ok (.aload_n 0, 1) := by decide +kernel
theorem dX12_slidAt_31 : decode cX12_slidAt 31 = .ok (.getfield 59, 3) := by decide +kernel
theorem dX12_slidAt_34 : decode cX12_slidAt 34 = .ok (.iload_n 1, 1) := by decide +kernel
theorem dX12_slidAt_35 : decode cX12_slidAt 35 = .ok (.iaload, 1) := by decide +kernel
theorem dX12_slidAt_36 : decode cX12_slidAt 36 = .ok (.ireturn, 1) := by decide +kernel
set_option maxRecDepth 20000 in
theorem ggX12_blame_X12_isUser : GoodIn wsX12_blame wsX12_isUser := goodIn_r _ [6, 1, 7, 8, 5, 9, 63, 64, 65, 66, 67, 68, 69, 70, 71, 72, 73, 74, 75, 76, 77, 78, 79, 80, 81, 82, 83, 84, 85, 86, 87, 88, 89, 90, 91, 92] (by decide +kernel) (by decide +kernel)
set_option maxRecDepth 20000 in
theorem gX12_blame_X12_isUser : GoodIn wsX12_blame (wsV RX12 228 RX12 yX12_isUser wsX12_isUser) := goodIn_app (goodIn_of _ (by decide +kernel)) ggX12_blame_X12_isUser
set_option maxRecDepth 20000 in
theorem ggX12_blame_X12_isUnknown : GoodIn wsX12_blame wsX12_isUnknown := goodIn_r _ [13, 14, 63, 64, 65, 66, 67, 68, 69, 70, 71, 72, 73, 74, 75, 76, 77, 78, 79, 80, 81, 82, 83, 84, 85, 86, 87, 88, 89, 90, 91, 92] (by decide +kernel) (by decide +kernel)
set_option maxRecDepth 20000 in
theorem gX12_blame_X12_isUnknown : GoodIn wsX12_blame (wsV RX12 178 RX12 yX12_isUnknown wsX12_isUnknown) := goodIn_app (goodIn_of _ (by decide +kernel)) ggX12_blame_X12_isUnknown
set_option maxRecDepth 20000 in
theorem ggX12_blame_X12_layOccupied : GoodIn wsX12_blame wsX12_layOccupied := goodIn_r _ [18, 19, 1, 20, 21, 22, 5, 23, 24, 25, 26, 27, 28, 29, 30, 31, 32, 14, 33, 34, 35, 63, 64, 65, 66, 67, 68, 69, 70, 71, 72, 73, 74, 75, 76, 77, 78, 79, 80, 81, 82, 83, 84, 85, 86, 87, 88, 89, 90, 91, 92] (by decide +kernel) (by decide +kernel)
set_option maxRecDepth 20000 in
theorem gX12_blame_X12_layOccupied : GoodIn wsX12_blame (wsV RX12 329 RX12 yX12_layOccupied wsX12_layOccupied) := goodIn_app (goodIn_of _ (by decide +kernel)) ggX12_blame_X12_layOccupied
set_option maxRecDepth 20000 in
theorem ggX12_blame_X12_knownWith : GoodIn wsX12_blame wsX12_knownWith := goodIn_r _ [39, 40, 41, 42, 5, 43, 1, 44, 45, 46, 47, 48, 49, 50, 51, 10, 11, 12, 13, 14, 52, 53, 54, 55, 20, 21, 22, 23, 24, 25, 26, 27, 28, 56, 57, 58, 59, 19, 60, 61, 62, 33, 34, 35, 63, 64, 65, 66, 67, 68, 69, 70, 71, 72, 73, 74, 75, 76, 77, 78, 79, 80, 81, 82, 83, 84, 85, 86, 87, 88, 89, 90, 91, 92] (by decide +kernel) (by decide +kernel)
set_option maxRecDepth 20000 in
theorem gX12_blame_X12_knownWith : GoodIn wsX12_blame (wsV RX12 356 RX12 yX12_knownWith wsX12_knownWith) := goodIn_app (goodIn_of _ (by decide +kernel)) ggX12_blame_X12_knownWith
set_option maxRecDepth 20000 in
theorem ggX12_blame_X12_has : GoodIn wsX12_blame wsX12_has := goodIn_r _ [35] (by decide +kernel) (by decide +kernel)
set_option maxRecDepth 20000 in
theorem gX12_blame_X12_has : GoodIn wsX12_blame (va_wsS RX12 107 yX12_has wsX12_has) := goodIn_app (goodIn_of _ (by decide +kernel)) ggX12_blame_X12_has
theorem dX12_blame_0 : decode cX12_blame 0 = .ok (.aload_n 0, 1) := by decide +kernel
theorem dX12_blame_1 : decode cX12_blame 1 = .ok (.iload_n 1, 1) := by decide +kernel
theorem dX12_blame_2 : decode cX12_blame 2 = .ok (.invokevirtual 228, 3) := by decide +kernel
theorem dX12_blame_5 : decode cX12_blame 5 = .ok (.ifCond .eq 11, 3) := by decide +kernel
theorem dX12_blame_8 : decode cX12_blame 8 = .ok (.aload_n 0, 1) := by decide +kernel
theorem dX12_blame_9 : decode cX12_blame 9 = .ok (.iload_n 1, 1) := by decide +kernel
theorem dX12_blame_10 : decode cX12_blame 10 = .ok (.invokevirtual 178, 3) := by decide +kernel
theorem dX12_blame_13 : decode cX12_blame 13 = .ok (.ifCond .ne 5, 3) := by decide +kernel
theorem dX12_blame_16 : decode cX12_blame 16 = .ok (.iconst (-1), 1) := by decide +kernel
theorem dX12_blame_17 : decode cX12_blame 17 = .ok (.ireturn, 1) := by decide +kernel
theorem dX12_blame_18 : decode cX12_blame 18 = .ok (.aload_n 0, 1) := by decide +kernel
theorem dX12_blame_19 : decode cX12_blame 19 = .ok (.invokevirtual 329, 3) := by decide +kernel
theorem dX12_blame_22 : decode cX12_blame 22 = .ok (.iconst 0, 1) := by decide +kernel
theorem dX12_blame_23 : decode cX12_blame 23 = .ok (.istore_n 2, 1) := by decide +kernel
theorem dX12_blame_24 : decode cX12_blame 24 = .ok (.iconst 0, 1) := by decide +kernel
theorem dX12_blame_25 : decode cX12_blame 25 = .ok (.istore_n 3, 1) := by decide +kernel
theorem dX12_blame_26 : decode cX12_blame 26 = .ok (.iload_n 3, 1) := by decide +kernel
theorem dX12_blame_27 : decode cX12_blame 27 = .ok (.aload_n 0, 1) := by decide +kernel
theorem dX12_blame_28 : decode cX12_blame 28 = .ok (.getfield 148, 3) := by decide +kernel
theorem dX12_blame_31 : decode cX12_blame 31 = .ok (.if_icmp .ge 47, 3) := by decide +kernel
theorem dX12_blame_34 : decode cX12_blame 34 = .ok (.iload_n 2, 1) := by decide +kernel
theorem dX12_blame_35 : decode cX12_blame 35 = .ok (.iload_n 3, 1) := by decide +kernel
theorem dX12_blame_36 : decode cX12_blame 36 = .ok (.iload_n 1, 1) := by decide +kernel
theorem dX12_blame_37 : decode cX12_blame 37 = .ok (.if_icmp .eq 32, 3) := by decide +kernel
theorem dX12_blame_40 : decode cX12_blame 40 = .ok (.aload_n 0, 1) := by decide +kernel
theorem dX12_blame_41 : decode cX12_blame 41 = .ok (.iload_n 3, 1) := by decide +kernel
theorem dX12_blame_42 : decode cX12_blame 42 = .ok (.invokevirtual 178, 3) := by decide +kernel
theorem dX12_blame_45 : decode cX12_blame 45 = .ok (.ifCond .eq 24, 3) := by decide +kernel
theorem dX12_blame_48 : decode cX12_blame 48 = .ok (.aload_n 0, 1) := by decide +kernel
theorem dX12_blame_49 : decode cX12_blame 49 = .ok (.iconst 1, 1) := by decide +kernel
theorem dX12_blame_50 : decode cX12_blame 50 = .ok (.iload_n 3, 1) := by decide +kernel
theorem dX12_blame_51 : decode cX12_blame 51 = .ok (.ishl, 1) := by decide +kernel
theorem dX12_blame_52 : decode cX12_blame 52 = .ok (.iconst 1, 1) := by decide +kernel
theorem dX12_blame_53 : decode cX12_blame 53 = .ok (.invokevirtual 356, 3) := by decide +kernel
theorem dX12_blame_56 : decode cX12_blame 56 = .ok (.iload_n 1, 1) := by decide +kernel
theorem dX12_blame_57 : decode cX12_blame 57 = .ok (.invokestatic 107, 3) := by decide +kernel
theorem dX12_blame_60 : decode cX12_blame 60 = .ok (.ifCond .eq 9, 3) := by decide +kernel
theorem dX12_blame_63 : decode cX12_blame 63 = .ok (.iconst 1, 1) := by decide +kernel
theorem dX12_blame_64 : decode cX12_blame 64 = .ok (.iload_n 3, 1) := by decide +kernel
theorem dX12_blame_65 : decode cX12_blame 65 = .ok (.ishl, 1) := by decide +kernel
theorem dX12_blame_66 : decode cX12_blame 66 = .ok (.goto 4, 3) := by decide +kernel
theorem dX12_blame_69 : decode cX12_blame 69 = .ok (.iconst 0, 1) := by decide +kernel
theorem dX12_blame_70 : decode cX12_blame 70 = .ok (.ior, 1) := by decide +kernel
theorem dX12_blame_71 : decode cX12_blame 71 = .ok (.istore_n 2, 1) := by decide +kernel
theorem dX12_blame_72 : decode cX12_blame 72 = .ok (.iinc 3 1, 3) := by decide +kernel
theorem dX12_blame_75 : decode cX12_blame 75 = .ok (.goto (-49), 3) := by decide +kernel
theorem dX12_blame_78 : decode cX12_blame 78 = .ok (.iload_n 2, 1) := by decide +kernel
theorem dX12_blame_79 : decode cX12_blame 79 = .ok (.ireturn, 1) := by decide +kernel
set_option maxRecDepth 20000 in
theorem ggX12_bestOne_X12_layOccupied : GoodIn wsX12_bestOne wsX12_layOccupied := goodIn_r _ [6, 7, 1, 8, 9, 10, 5, 11, 12, 13, 14, 15, 16, 17, 18, 19, 20, 21, 22, 23, 24, 59, 60, 61, 62, 63, 64, 65, 66, 67, 68, 69, 70, 71, 72, 73, 74, 75, 76, 77, 78, 79, 80, 81, 82, 83, 84, 85, 86, 87, 88] (by decide +kernel) (by decide +kernel)
set_option maxRecDepth 20000 in
theorem gX12_bestOne_X12_layOccupied : GoodIn wsX12_bestOne (wsV RX12 329 RX12 yX12_layOccupied wsX12_layOccupied) := goodIn_app (goodIn_of _ (by decide +kernel)) ggX12_bestOne_X12_layOccupied
set_option maxRecDepth 20000 in
theorem ggX12_bestOne_X12_isUnknown : GoodIn wsX12_bestOne wsX12_isUnknown := goodIn_r _ [28, 21, 59, 60, 61, 62, 63, 64, 65, 66, 67, 68, 69, 70, 71, 72, 73, 74, 75, 76, 77, 78, 79, 80, 81, 82, 83, 84, 85, 86, 87, 88] (by decide +kernel) (by decide +kernel)
set_option maxRecDepth 20000 in
theorem gX12_bestOne_X12_isUnknown : GoodIn wsX12_bestOne (wsV RX12 178 RX12 yX12_isUnknown wsX12_isUnknown) := goodIn_app (goodIn_of _ (by decide +kernel)) ggX12_bestOne_X12_isUnknown
set_option maxRecDepth 20000 in
theorem ggX12_bestOne_X12_knownWith : GoodIn wsX12_bestOne wsX12_knownWith := goodIn_r _ [32, 33, 34, 35, 5, 36, 1, 37, 38, 39, 40, 41, 42, 43, 44, 25, 26, 27, 28, 21, 45, 46, 47, 48, 8, 9, 10, 11, 12, 13, 14, 15, 16, 49, 50, 51, 52, 7, 53, 54, 55, 22, 23, 24, 59, 60, 61, 62, 63, 64, 65, 66, 67, 68, 69, 70, 71, 72, 73, 74, 75, 76, 77, 78, 79, 80, 81, 82, 83, 84, 85, 86, 87, 88] (by decide +kernel) (by decide +kernel)
set_option maxRecDepth 20000 in
theorem gX12_bestOne_X12_knownWith : GoodIn wsX12_bestOne (wsV RX12 356 RX12 yX12_knownWith wsX12_knownWith) := goodIn_app (goodIn_of _ (by decide +kernel)) ggX12_bestOne_X12_knownWith
set_option maxRecDepth 20000 in
theorem ggX12_bestOne_X12_bits : GoodIn wsX12_bestOne wsX12_bits := goodIn_r _ [58] (by decide +kernel) (by decide +kernel)
set_option maxRecDepth 20000 in
theorem gX12_bestOne_X12_bits : GoodIn wsX12_bestOne (va_wsS RX12 157 yX12_bits wsX12_bits) := goodIn_app (goodIn_of _ (by decide +kernel)) ggX12_bestOne_X12_bits
theorem dX12_bestOne_0 : decode cX12_bestOne 0 = .ok (.aload_n 0, 1) := by decide +kernel
theorem dX12_bestOne_1 : decode cX12_bestOne 1 = .ok (.invokevirtual 329, 3) := by decide +kernel
theorem dX12_bestOne_4 : decode cX12_bestOne 4 = .ok (.iconst (-1), 1) := by decide +kernel
theorem dX12_bestOne_5 : decode cX12_bestOne 5 = .ok (.istore_n 3, 1) := by decide +kernel
theorem dX12_bestOne_6 : decode cX12_bestOne 6 = .ok (.iconst 0, 1) := by decide +kernel
theorem dX12_bestOne_7 : decode cX12_bestOne 7 = .ok (.istore 4, 2) := by decide +kernel
theorem dX12_bestOne_9 : decode cX12_bestOne 9 = .ok (.iconst 0, 1) := by decide +kernel
theorem dX12_bestOne_10 : decode cX12_bestOne 10 = .ok (.istore 5, 2) := by decide +kernel
theorem dX12_bestOne_12 : decode cX12_bestOne 12 = .ok (.iload 5, 2) := by decide +kernel
theorem dX12_bestOne_14 : decode cX12_bestOne 14 = .ok (.aload_n 0, 1) := by decide +kernel
theorem dX12_bestOne_15 : decode cX12_bestOne 15 = .ok (.getfield 148, 3) := by decide +kernel
theorem dX12_bestOne_18 : decode cX12_bestOne 18 = .ok (.if_icmp .ge 51, 3) := by decide +kernel
theorem dX12_bestOne_21 : decode cX12_bestOne 21 = .ok (.aload_n 0, 1) := by decide +kernel
theorem dX12_bestOne_22 : decode cX12_bestOne 22 = .ok (.iload 5, 2) := by decide +kernel
theorem dX12_bestOne_24 : decode cX12_bestOne 24 = .ok (.invokevirtual 178, 3) := by decide +kernel
theorem dX12_bestOne_27 : decode cX12_bestOne 27 = .ok (.ifCond .eq 36, 3) := by decide +kernel
theorem dX12_bestOne_30 : decode cX12_bestOne 30 = .ok (.aload_n 0, 1) := by decide +kernel
theorem dX12_bestOne_31 : decode cX12_bestOne 31 = .ok (.iconst 1, 1) := by decide +kernel
theorem dX12_bestOne_32 : decode cX12_bestOne 32 = .ok (.iload 5, 2) := by decide +kernel
theorem dX12_bestOne_34 : decode cX12_bestOne 34 = .ok (.ishl, 1) := by decide +kernel
theorem dX12_bestOne_35 : decode cX12_bestOne 35 = .ok (.iload_n 1, 1) := by decide +kernel
theorem dX12_bestOne_36 : decode cX12_bestOne 36 = .ok (.invokevirtual 356, 3) := by decide +kernel
theorem dX12_bestOne_39 : decode cX12_bestOne 39 = .ok (.invokestatic 157, 3) := by decide +kernel
theorem dX12_bestOne_42 : decode cX12_bestOne 42 = .ok (.istore 6, 2) := by decide +kernel
theorem dX12_bestOne_44 : decode cX12_bestOne 44 = .ok (.iload_n 3, 1) := by decide +kernel
theorem dX12_bestOne_45 : decode cX12_bestOne 45 = .ok (.iconst (-1), 1) := by decide +kernel
theorem dX12_bestOne_46 : decode cX12_bestOne 46 = .ok (.if_icmp .eq 10, 3) := by decide +kernel
theorem dX12_bestOne_49 : decode cX12_bestOne 49 = .ok (.iload 6, 2) := by decide +kernel
theorem dX12_bestOne_51 : decode cX12_bestOne 51 = .ok (.iload 4, 2) := by decide +kernel
theorem dX12_bestOne_53 : decode cX12_bestOne 53 = .ok (.if_icmp .le 10, 3) := by decide +kernel
theorem dX12_bestOne_56 : decode cX12_bestOne 56 = .ok (.iload 5, 2) := by decide +kernel
theorem dX12_bestOne_58 : decode cX12_bestOne 58 = .ok (.istore_n 3, 1) := by decide +kernel
theorem dX12_bestOne_59 : decode cX12_bestOne 59 = .ok (.iload 6, 2) := by decide +kernel
theorem dX12_bestOne_61 : decode cX12_bestOne 61 = .ok (.istore 4, 2) := by decide +kernel
theorem dX12_bestOne_63 : decode cX12_bestOne 63 = .ok (.iinc 5 1, 3) := by decide +kernel
theorem dX12_bestOne_66 : decode cX12_bestOne 66 = .ok (.goto (-54), 3) := by decide +kernel
theorem dX12_bestOne_69 : decode cX12_bestOne 69 = .ok (.iload_n 2, 1) := by decide +kernel
theorem dX12_bestOne_70 : decode cX12_bestOne 70 = .ok (.ifCond .ne 7, 3) := by decide +kernel
theorem dX12_bestOne_73 : decode cX12_bestOne 73 = .ok (.iload_n 3, 1) := by decide +kernel
theorem dX12_bestOne_74 : decode cX12_bestOne 74 = .ok (.goto 5, 3) := by decide +kernel
theorem dX12_bestOne_77 : decode cX12_bestOne 77 = .ok (.iload 4, 2) := by decide +kernel
theorem dX12_bestOne_79 : decode cX12_bestOne 79 = .ok (.ireturn, 1) := by decide +kernel
set_option maxRecDepth 20000 in
theorem ggX12_less_X12_isField : GoodIn wsX12_less wsX12_isField := goodIn_r _ [6, 7, 67, 68, 69, 70, 71, 72, 73, 74, 75, 76, 77, 78, 79, 80, 81, 82, 83, 84, 85, 86, 87, 88, 89, 90, 91, 92, 93, 94, 95, 96] (by decide +kernel) (by decide +kernel)
set_option maxRecDepth 20000 in
theorem gX12_less_X12_isField : GoodIn wsX12_less (wsV RX12 151 RX12 yX12_isField wsX12_isField) := goodIn_app (goodIn_of _ (by decide +kernel)) ggX12_less_X12_isField
set_option maxRecDepth 20000 in
theorem ggX12_less_X12_in : GoodIn wsX12_less wsX12_in := goodIn_r _ [10] (by decide +kernel) (by decide +kernel)
set_option maxRecDepth 20000 in
theorem gX12_less_X12_in : GoodIn wsX12_less (va_wsS RX12 76 yX12_in wsX12_in) := goodIn_app (goodIn_of _ (by decide +kernel)) ggX12_less_X12_in
set_option maxRecDepth 20000 in
theorem ggX12_less_X12_bestOne : GoodIn wsX12_less wsX12_bestOne := goodIn_r _ [14, 7, 15, 16, 17, 5, 18, 19, 20, 21, 22, 23, 24, 2, 3, 4, 6, 25, 26, 27, 28, 29, 30, 31, 32, 33, 34, 35, 36, 37, 38, 39, 40, 41, 42, 43, 44, 45, 46, 47, 48, 49, 50, 51, 52, 53, 54, 55, 56, 57, 58, 59, 60, 61, 62, 63, 64, 65, 66, 67, 68, 69, 70, 71, 72, 73, 74, 75, 76, 77, 78, 79, 80, 81, 82, 83, 84, 85, 86, 87, 88, 89, 90, 91, 92, 93, 94, 95, 96] (by decide +kernel) (by decide +kernel)
set_option maxRecDepth 20000 in
theorem gX12_less_X12_bestOne : GoodIn wsX12_less (wsV RX12 366 RX12 yX12_bestOne wsX12_bestOne) := goodIn_app (goodIn_of _ (by decide +kernel)) ggX12_less_X12_bestOne
theorem dX12_less_0 : decode cX12_less 0 = .ok (.aload_n 0, 1) := by decide +kernel
theorem dX12_less_1 : decode cX12_less 1 = .ok (.invokevirtual 151, 3) := by decide +kernel
theorem dX12_less_4 : decode cX12_less 4 = .ok (.ifCond .eq 21, 3) := by decide +kernel
theorem dX12_less_7 : decode cX12_less 7 = .ok (.iload_n 1, 1) := by decide +kernel
theorem dX12_less_8 : decode cX12_less 8 = .ok (.iconst 0, 1) := by decide +kernel
theorem dX12_less_9 : decode cX12_less 9 = .ok (.iconst 1, 1) := by decide +kernel
theorem dX12_less_10 : decode cX12_less 10 = .ok (.invokestatic 76, 3) := by decide +kernel
theorem dX12_less_13 : decode cX12_less 13 = .ok (.ifCond .eq 12, 3) := by decide +kernel
theorem dX12_less_16 : decode cX12_less 16 = .ok (.aload_n 0, 1) := by decide +kernel
theorem dX12_less_17 : decode cX12_less 17 = .ok (.iconst 0, 1) := by decide +kernel
theorem dX12_less_18 : decode cX12_less 18 = .ok (.iload_n 1, 1) := by decide +kernel
theorem dX12_less_19 : decode cX12_less 19 = .ok (.invokevirtual 366, 3) := by decide +kernel
theorem dX12_less_22 : decode cX12_less 22 = .ok (.goto 6, 3) := by decide +kernel
theorem dX12_less_25 : decode cX12_less 25 = .ok (.ldc_w 313, 3) := by decide +kernel
theorem dX12_less_28 : decode cX12_less 28 = .ok (.ireturn, 1) := by decide +kernel
set_option maxRecDepth 20000 in
theorem ggX12_key_X12_isField : GoodIn wsX12_key wsX12_isField := goodIn_r _ [6, 7, 67, 68, 69, 70, 71, 72, 73, 74, 75, 76, 77, 78, 79, 80, 81, 82, 83, 84, 85, 86, 87, 88, 89, 90, 91, 92, 93, 94, 95, 96] (by decide +kernel) (by decide +kernel)
set_option maxRecDepth 20000 in
theorem gX12_key_X12_isField : GoodIn wsX12_key (wsV RX12 151 RX12 yX12_isField wsX12_isField) := goodIn_app (goodIn_of _ (by decide +kernel)) ggX12_key_X12_isField
set_option maxRecDepth 20000 in
theorem ggX12_key_X12_in : GoodIn wsX12_key wsX12_in := goodIn_r _ [10] (by decide +kernel) (by decide +kernel)
set_option maxRecDepth 20000 in
theorem gX12_key_X12_in : GoodIn wsX12_key (va_wsS RX12 76 yX12_in wsX12_in) := goodIn_app (goodIn_of _ (by decide +kernel)) ggX12_key_X12_in
set_option maxRecDepth 20000 in
theorem ggX12_key_X12_bestOne : GoodIn wsX12_key wsX12_bestOne := goodIn_r _ [14, 7, 15, 16, 17, 5, 18, 19, 20, 21, 22, 23, 24, 2, 3, 4, 6, 25, 26, 27, 28, 29, 30, 31, 32, 33, 34, 35, 36, 37, 38, 39, 40, 41, 42, 43, 44, 45, 46, 47, 48, 49, 50, 51, 52, 53, 54, 55, 56, 57, 58, 59, 60, 61, 62, 63, 64, 65, 66, 67, 68, 69, 70, 71, 72, 73, 74, 75, 76, 77, 78, 79, 80, 81, 82, 83, 84, 85, 86, 87, 88, 89, 90, 91, 92, 93, 94, 95, 96] (by decide +kernel) (by decide +kernel)
set_option maxRecDepth 20000 in
theorem gX12_key_X12_bestOne : GoodIn wsX12_key (wsV RX12 366 RX12 yX12_bestOne wsX12_bestOne) := goodIn_app (goodIn_of _ (by decide +kernel)) ggX12_key_X12_bestOne
theorem dX12_key_0 : decode cX12_key 0 = .ok (.aload_n 0, 1) := by decide +kernel
theorem dX12_key_1 : decode cX12_key 1 = .ok (.invokevirtual 151, 3) := by decide +kernel
theorem dX12_key_4 : decode cX12_key 4 = .ok (.ifCond .eq 21, 3) := by decide +kernel
theorem dX12_key_7 : decode cX12_key 7 = .ok (.iload_n 1, 1) := by decide +kernel
theorem dX12_key_8 : decode cX12_key 8 = .ok (.iconst 0, 1) := by decide +kernel
theorem dX12_key_9 : decode cX12_key 9 = .ok (.iconst 1, 1) := by decide +kernel
theorem dX12_key_10 : decode cX12_key 10 = .ok (.invokestatic 76, 3) := by decide +kernel
theorem dX12_key_13 : decode cX12_key 13 = .ok (.ifCond .eq 12, 3) := by decide +kernel
theorem dX12_key_16 : decode cX12_key 16 = .ok (.aload_n 0, 1) := by decide +kernel
theorem dX12_key_17 : decode cX12_key 17 = .ok (.iconst 1, 1) := by decide +kernel
theorem dX12_key_18 : decode cX12_key 18 = .ok (.iload_n 1, 1) := by decide +kernel
theorem dX12_key_19 : decode cX12_key 19 = .ok (.invokevirtual 366, 3) := by decide +kernel
theorem dX12_key_22 : decode cX12_key 22 = .ok (.goto 6, 3) := by decide +kernel
theorem dX12_key_25 : decode cX12_key 25 = .ok (.ldc_w 313, 3) := by decide +kernel
theorem dX12_key_28 : decode cX12_key 28 = .ok (.ireturn, 1) := by decide +kernel
set_option maxRecDepth 20000 in
theorem ggX12_more_X12_isUser : GoodIn wsX12_more wsX12_isUser := goodIn_r _ [8, 3, 9, 10, 7, 11, 72, 73, 74, 75, 76, 77, 78, 79, 80, 81, 82, 83, 84, 85, 86, 87, 88, 89, 90, 91, 92, 93, 94, 95, 96, 97, 98, 99, 100, 101] (by decide +kernel) (by decide +kernel)
set_option maxRecDepth 20000 in
theorem gX12_more_X12_isUser : GoodIn wsX12_more (wsV RX12 228 RX12 yX12_isUser wsX12_isUser) := goodIn_app (goodIn_of _ (by decide +kernel)) ggX12_more_X12_isUser
set_option maxRecDepth 20000 in
theorem ggX12_more_X12_in : GoodIn wsX12_more wsX12_in := goodIn_r _ [11] (by decide +kernel) (by decide +kernel)
set_option maxRecDepth 20000 in
theorem gX12_more_X12_in : GoodIn wsX12_more (va_wsS RX12 76 yX12_in wsX12_in) := goodIn_app (goodIn_of _ (by decide +kernel)) ggX12_more_X12_in
set_option maxRecDepth 20000 in
theorem ggX12_more_X12_beginOf : GoodIn wsX12_more wsX12_beginOf := goodIn_r _ [15, 16, 17, 72, 73, 74, 75, 76, 77, 78, 79, 80, 81, 82, 83, 84, 85, 86, 87, 88, 89, 90, 91, 92, 93, 94, 95, 96, 97, 98, 99, 100, 101] (by decide +kernel) (by decide +kernel)
set_option maxRecDepth 20000 in
theorem gX12_more_X12_beginOf : GoodIn wsX12_more (wsV RX12 222 RX12 yX12_beginOf wsX12_beginOf) := goodIn_app (goodIn_of _ (by decide +kernel)) ggX12_more_X12_beginOf
set_option maxRecDepth 20000 in
theorem ggX12_more_X12_widthOf : GoodIn wsX12_more wsX12_widthOf := goodIn_r _ [21, 16, 17, 72, 73, 74, 75, 76, 77, 78, 79, 80, 81, 82, 83, 84, 85, 86, 87, 88, 89, 90, 91, 92, 93, 94, 95, 96, 97, 98, 99, 100, 101] (by decide +kernel) (by decide +kernel)
set_option maxRecDepth 20000 in
theorem gX12_more_X12_widthOf : GoodIn wsX12_more (wsV RX12 225 RX12 yX12_widthOf wsX12_widthOf) := goodIn_app (goodIn_of _ (by decide +kernel)) ggX12_more_X12_widthOf
set_option maxRecDepth 20000 in
theorem ggX12_more_X12_hasCopy : GoodIn wsX12_more wsX12_hasCopy := goodIn_r _ [25, 26, 27, 28, 7, 29, 72, 73, 74, 75, 76, 77, 78, 79, 80, 81, 82, 83, 84, 85, 86, 87, 88, 89, 90, 91, 92, 93, 94, 95, 96, 97, 98, 99, 100, 101] (by decide +kernel) (by decide +kernel)
set_option maxRecDepth 20000 in
theorem gX12_more_X12_hasCopy : GoodIn wsX12_more (wsV RX12 181 RX12 yX12_hasCopy wsX12_hasCopy) := goodIn_app (goodIn_of _ (by decide +kernel)) ggX12_more_X12_hasCopy
set_option maxRecDepth 20000 in
theorem ggX12_more_X12_layOccupied : GoodIn wsX12_more wsX12_layOccupied := goodIn_r _ [33, 2, 3, 34, 35, 36, 7, 37, 16, 38, 39, 40, 41, 22, 23, 24, 25, 26, 27, 28, 29, 72, 73, 74, 75, 76, 77, 78, 79, 80, 81, 82, 83, 84, 85, 86, 87, 88, 89, 90, 91, 92, 93, 94, 95, 96, 97, 98, 99, 100, 101] (by decide +kernel) (by decide +kernel)
set_option maxRecDepth 20000 in
theorem gX12_more_X12_layOccupied : GoodIn wsX12_more (wsV RX12 329 RX12 yX12_layOccupied wsX12_layOccupied) := goodIn_app (goodIn_of _ (by decide +kernel)) ggX12_more_X12_layOccupied
set_option maxRecDepth 20000 in
theorem ggX12_more_X12_unknownOnes : GoodIn wsX12_more wsX12_unknownOnes := goodIn_r _ [45, 46, 47, 48, 7, 49, 3, 50, 51, 52, 53, 54, 55, 56, 57, 26, 72, 73, 74, 75, 76, 77, 78, 79, 80, 81, 82, 83, 84, 85, 86, 87, 88, 89, 90, 91, 92, 93, 94, 95, 96, 97, 98, 99, 100, 101] (by decide +kernel) (by decide +kernel)
set_option maxRecDepth 20000 in
theorem gX12_more_X12_unknownOnes : GoodIn wsX12_more (wsV RX12 332 RX12 yX12_unknownOnes wsX12_unknownOnes) := goodIn_app (goodIn_of _ (by decide +kernel)) ggX12_more_X12_unknownOnes
set_option maxRecDepth 20000 in
theorem ggX12_more_X12_remaining : GoodIn wsX12_more wsX12_remaining := goodIn_r _ [61, 34, 35, 36, 7, 37, 16, 38, 39, 40, 41, 3, 62, 63, 64, 65, 2, 66, 26, 67, 68, 27, 28, 29, 72, 73, 74, 75, 76, 77, 78, 79, 80, 81, 82, 83, 84, 85, 86, 87, 88, 89, 90, 91, 92, 93, 94, 95, 96, 97, 98, 99, 100, 101] (by decide +kernel) (by decide +kernel)
set_option maxRecDepth 20000 in
theorem gX12_more_X12_remaining : GoodIn wsX12_more (wsV RX12 335 RX12 yX12_remaining wsX12_remaining) := goodIn_app (goodIn_of _ (by decide +kernel)) ggX12_more_X12_remaining
set_option maxRecDepth 20000 in
theorem ggX12_more_X12_bits : GoodIn wsX12_more wsX12_bits := goodIn_r _ [71] (by decide +kernel) (by decide +kernel)
set_option maxRecDepth 20000 in
theorem gX12_more_X12_bits : GoodIn wsX12_more (va_wsS RX12 157 yX12_bits wsX12_bits) := goodIn_app (goodIn_of _ (by decide +kernel)) ggX12_more_X12_bits
theorem dX12_more_0 : decode cX12_more 0 = .ok (.aload_n 0, 1) := by decide +kernel
theorem dX12_more_1 : decode cX12_more 1 = .ok (.iload_n 1, 1) := by decide +kernel
theorem dX12_more_2 : decode cX12_more 2 = .ok (.invokevirtual 228, 3) := by decide +kernel
theorem dX12_more_5 : decode cX12_more 5 = .ok (.ifCond .eq 12, 3) := by decide +kernel
theorem dX12_more_8 : decode cX12_more 8 = .ok (.iload_n 2, 1) := by decide +kernel
theorem dX12_more_9 : decode cX12_more 9 = .ok (.iconst 0, 1) := by decide +kernel
theorem dX12_more_10 : decode cX12_more 10 = .ok (.iconst 1, 1) := by decide +kernel
theorem dX12_more_11 : decode cX12_more 11 = .ok (.invokestatic 76, 3) := by decide +kernel
theorem dX12_more_14 : decode cX12_more 14 = .ok (.ifCond .ne 7, 3) := by decide +kernel
theorem dX12_more_17 : decode cX12_more 17 = .ok (.ldc_w 313, 3) := by decide +kernel
