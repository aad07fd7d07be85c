theorem dX11_tell_5 : decode cX11_tell 5 = .ok (.invokevirtual 280, 3) := by decide +kernel
theorem dX11_tell_8 : decode cX11_tell 8 = .ok (.ireturn, 1) := by decide +kernel
set_option maxRecDepth 20000 in
theorem ggX11_forget_X11_act : GoodIn wsX11_forget wsX11_act := goodIn_r _ [5, 6, 7, 8, 9, 4, 10, 11, 12, 13, 14, 15, 16, 17, 18, 19, 20, 21, 22, 23, 24, 25, 26, 27, 28, 29, 30, 31, 32, 33, 34, 35, 36, 37, 38, 39, 40, 41, 42, 43, 44, 45, 46, 47, 48, 49, 50, 51, 52, 53, 54, 55, 56, 57, 58, 59, 60, 61, 62, 63, 64, 65, 66, 67, 68, 69, 70, 71, 72, 73, 74, 75, 76, 77, 78, 79, 80, 81, 82, 83, 84, 85, 86, 87, 88, 89, 90, 91, 92, 93, 94, 95, 96, 97, 98, 99, 100, 101, 102, 103, 104, 105, 106, 107, 108, 109, 110, 111, 112, 113, 114, 115, 116, 117, 118, 119, 120, 121, 122, 123, 124, 125, 126, 127, 128, 129, 130, 131, 132, 133, 134, 135, 136, 137, 138, 139, 140, 141, 142, 143, 144, 145, 146, 147, 148, 149, 150, 151, 152, 153, 154, 155, 156, 157, 158, 159, 160, 161, 162, 163, 164, 165, 166, 167, 168, 169, 170, 171, 172, 173, 174, 175, 176, 177, 178, 179, 180, 181, 182, 183, 184, 185, 186, 187, 188, 189, 190, 191, 192, 193, 194, 195, 196, 197, 198, 199, 200, 201, 202, 203, 204, 205, 206, 207, 208, 209, 210, 211, 212, 213, 214, 215, 216, 217, 218, 219, 220, 221, 222, 223, 224, 225, 226, 227, 228, 229, 230, 231, 232, 233, 234, 235, 236, 237, 238, 239, 240, 241, 242, 243, 244, 245, 246, 247, 248, 249, 250, 251, 252, 253, 254, 255, 256, 257, 258, 259, 260, 261, 262, 263, 264, 265, 266, 267, 268, 269, 270, 271, 272, 273, 274, 275, 276, 277, 278, 279, 280, 281, 282, 283, 284, 285, 286, 287, 288, 289, 290, 291, 292, 293, 294, 295, 296, 297] (by decide +kernel) (by decide +kernel)
set_option maxRecDepth 20000 in
theorem gX11_forget_X11_act : GoodIn wsX11_forget (wsV RX11 280 RX11 yX11_act wsX11_act) := goodIn_app (goodIn_of _ (by decide +kernel)) ggX11_forget_X11_act
theorem dX11_forget_0 : decode cX11_forget 0 = .ok (.aload_n 0, 1) := by decide +kernel
theorem dX11_forget_1 : decode cX11_forget 1 = .ok (.iconst 3, 1) := by decide +kernel
theorem dX11_forget_2 : decode cX11_forget 2 = .ok (.iload_n 1, 1) := by decide +kernel
theorem dX11_forget_3 : decode cX11_forget 3 = .ok (.iconst (-1), 1) := by decide +kernel
theorem dX11_forget_4 : decode cX11_forget 4 = .ok (.lconst 0, 1) := by decide +kernel
theorem dX11_forget_5 : decode cX11_forget 5 = .ok (.invokevirtual 280, 3) := by decide +kernel
theorem dX11_forget_8 : decode cX11_forget 8 = .ok (.ireturn, 1) := by decide +kernel
set_option maxRecDepth 20000 in
theorem ggX11_turn_X11_act : GoodIn wsX11_turn wsX11_act := goodIn_r _ [5, 6, 7, 8, 9, 4, 10, 11, 12, 13, 14, 15, 16, 17, 18, 19, 20, 21, 22, 23, 24, 25, 26, 27, 28, 29, 30, 31, 32, 33, 34, 35, 36, 37, 38, 39, 40, 41, 42, 43, 44, 45, 46, 47, 48, 49, 50, 51, 52, 53, 54, 55, 56, 57, 58, 59, 60, 61, 62, 63, 64, 65, 66, 67, 68, 69, 70, 71, 72, 73, 74, 75, 76, 77, 78, 79, 80, 81, 82, 83, 84, 85, 86, 87, 88, 89, 90, 91, 92, 93, 94, 95, 96, 97, 98, 99, 100, 101, 102, 103, 104, 105, 106, 107, 108, 109, 110, 111, 112, 113, 114, 115, 116, 117, 118, 119, 120, 121, 122, 123, 124, 125, 126, 127, 128, 129, 130, 131, 132, 133, 134, 135, 136, 137, 138, 139, 140, 141, 142, 143, 144, 145, 146, 147, 148, 149, 150, 151, 152, 153, 154, 155, 156, 157, 158, 159, 160, 161, 162, 163, 164, 165, 166, 167, 168, 169, 170, 171, 172, 173, 174, 175, 176, 177, 178, 179, 180, 181, 182, 183, 184, 185, 186, 187, 188, 189, 190, 191, 192, 193, 194, 195, 196, 197, 198, 199, 200, 201, 202, 203, 204, 205, 206, 207, 208, 209, 210, 211, 212, 213, 214, 215, 216, 217, 218, 219, 220, 221, 222, 223, 224, 225, 226, 227, 228, 229, 230, 231, 232, 233, 234, 235, 236, 237, 238, 239, 240, 241, 242, 243, 244, 245, 246, 247, 248, 249, 250, 251, 252, 253, 254, 255, 256, 257, 258, 259, 260, 261, 262, 263, 264, 265, 266, 267, 268, 269, 270, 271, 272, 273, 274, 275, 276, 277, 278, 279, 280, 281, 282, 283, 284, 285, 286, 287, 288, 289, 290, 291, 292, 293, 294, 295, 296, 297] (by decide +kernel) (by decide +kernel)
set_option maxRecDepth 20000 in
theorem gX11_turn_X11_act : GoodIn wsX11_turn (wsV RX11 280 RX11 yX11_act wsX11_act) := goodIn_app (goodIn_of _ (by decide +kernel)) ggX11_turn_X11_act
theorem dX11_turn_0 : decode cX11_turn 0 = .ok (.aload_n 0, 1) := by decide +kernel
theorem dX11_turn_1 : decode cX11_turn 1 = .ok (.iconst 4, 1) := by decide +kernel
theorem dX11_turn_2 : decode cX11_turn 2 = .ok (.iload_n 1, 1) := by decide +kernel
theorem dX11_turn_3 : decode cX11_turn 3 = .ok (.iload_n 2, 1) := by decide +kernel
theorem dX11_turn_4 : decode cX11_turn 4 = .ok (.lconst 0, 1) := by decide +kernel
theorem dX11_turn_5 : decode cX11_turn 5 = .ok (.invokevirtual 280, 3) := by decide +kernel
theorem dX11_turn_8 : decode cX11_turn 8 = .ok (.ireturn, 1) := by decide +kernel
set_option maxRecDepth 20000 in
theorem ggX11_capture_X11_act : GoodIn wsX11_capture wsX11_act := goodIn_r _ [5, 6, 7, 8, 9, 4, 10, 11, 12, 13, 14, 15, 16, 17, 18, 19, 20, 21, 22, 23, 24, 25, 26, 27, 28, 29, 30, 31, 32, 33, 34, 35, 36, 37, 38, 39, 40, 41, 42, 43, 44, 45, 46, 47, 48, 49, 50, 51, 52, 53, 54, 55, 56, 57, 58, 59, 60, 61, 62, 63, 64, 65, 66, 67, 68, 69, 70, 71, 72, 73, 74, 75, 76, 77, 78, 79, 80, 81, 82, 83, 84, 85, 86, 87, 88, 89, 90, 91, 92, 93, 94, 95, 96, 97, 98, 99, 100, 101, 102, 103, 104, 105, 106, 107, 108, 109, 110, 111, 112, 113, 114, 115, 116, 117, 118, 119, 120, 121, 122, 123, 124, 125, 126, 127, 128, 129, 130, 131, 132, 133, 134, 135, 136, 137, 138, 139, 140, 141, 142, 143, 144, 145, 146, 147, 148, 149, 150, 151, 152, 153, 154, 155, 156, 157, 158, 159, 160, 161, 162, 163, 164, 165, 166, 167, 168, 169, 170, 171, 172, 173, 174, 175, 176, 177, 178, 179, 180, 181, 182, 183, 184, 185, 186, 187, 188, 189, 190, 191, 192, 193, 194, 195, 196, 197, 198, 199, 200, 201, 202, 203, 204, 205, 206, 207, 208, 209, 210, 211, 212, 213, 214, 215, 216, 217, 218, 219, 220, 221, 222, 223, 224, 225, 226, 227, 228, 229, 230, 231, 232, 233, 234, 235, 236, 237, 238, 239, 240, 241, 242, 243, 244, 245, 246, 247, 248, 249, 250, 251, 252, 253, 254, 255, 256, 257, 258, 259, 260, 261, 262, 263, 264, 265, 266, 267, 268, 269, 270, 271, 272, 273, 274, 275, 276, 277, 278, 279, 280, 281, 282, 283, 284, 285, 286, 287, 288, 289, 290, 291, 292, 293, 294, 295, 296, 297] (by decide +kernel) (by decide +kernel)
set_option maxRecDepth 20000 in
theorem gX11_capture_X11_act : GoodIn wsX11_capture (wsV RX11 280 RX11 yX11_act wsX11_act) := goodIn_app (goodIn_of _ (by decide +kernel)) ggX11_capture_X11_act
theorem dX11_capture_0 : decode cX11_capture 0 = .ok (.aload_n 0, 1) := by decide +kernel
theorem dX11_capture_1 : decode cX11_capture 1 = .ok (.iconst 5, 1) := by decide +kernel
theorem dX11_capture_2 : decode cX11_capture 2 = .ok (.iload_n 1, 1) := by decide +kernel
theorem dX11_capture_3 : decode cX11_capture 3 = .ok (.iconst (-1), 1) := by decide +kernel
theorem dX11_capture_4 : decode cX11_capture 4 = .ok (.lconst 0, 1) := by decide +kernel
theorem dX11_capture_5 : decode cX11_capture 5 = .ok (.invokevirtual 280, 3) := by decide +kernel
theorem dX11_capture_8 : decode cX11_capture 8 = .ok (.ireturn, 1) := by decide +kernel
set_option maxRecDepth 20000 in
theorem ggX11_draw_X11_act : GoodIn wsX11_draw wsX11_act := goodIn_r _ [5, 6, 7, 8, 9, 4, 10, 11, 12, 13, 14, 15, 16, 17, 18, 19, 20, 21, 22, 23, 24, 25, 26, 27, 28, 29, 30, 31, 32, 33, 34, 35, 36, 37, 38, 39, 40, 41, 42, 43, 44, 45, 46, 47, 48, 49, 50, 51, 52, 53, 54, 55, 56, 57, 58, 59, 60, 61, 62, 63, 64, 65, 66, 67, 68, 69, 70, 71, 72, 73, 74, 75, 76, 77, 78, 79, 80, 81, 82, 83, 84, 85, 86, 87, 88, 89, 90, 91, 92, 93, 94, 95, 96, 97, 98, 99, 100, 101, 102, 103, 104, 105, 106, 107, 108, 109, 110, 111, 112, 113, 114, 115, 116, 117, 118, 119, 120, 121, 122, 123, 124, 125, 126, 127, 128, 129, 130, 131, 132, 133, 134, 135, 136, 137, 138, 139, 140, 141, 142, 143, 144, 145, 146, 147, 148, 149, 150, 151, 152, 153, 154, 155, 156, 157, 158, 159, 160, 161, 162, 163, 164, 165, 166, 167, 168, 169, 170, 171, 172, 173, 174, 175, 176, 177, 178, 179, 180, 181, 182, 183, 184, 185, 186, 187, 188, 189, 190, 191, 192, 193, 194, 195, 196, 197, 198, 199, 200, 201, 202, 203, 204, 205, 206, 207, 208, 209, 210, 211, 212, 213, 214, 215, 216, 217, 218, 219, 220, 221, 222, 223, 224, 225, 226, 227, 228, 229, 230, 231, 232, 233, 234, 235, 236, 237, 238, 239, 240, 241, 242, 243, 244, 245, 246, 247, 248, 249, 250, 251, 252, 253, 254, 255, 256, 257, 258, 259, 260, 261, 262, 263, 264, 265, 266, 267, 268, 269, 270, 271, 272, 273, 274, 275, 276, 277, 278, 279, 280, 281, 282, 283, 284, 285, 286, 287, 288, 289, 290, 291, 292, 293, 294, 295, 296, 297] (by decide +kernel) (by decide +kernel)
set_option maxRecDepth 20000 in
theorem gX11_draw_X11_act : GoodIn wsX11_draw (wsV RX11 280 RX11 yX11_act wsX11_act) := goodIn_app (goodIn_of _ (by decide +kernel)) ggX11_draw_X11_act
theorem dX11_draw_0 : decode cX11_draw 0 = .ok (.aload_n 0, 1) := by decide +kernel
theorem dX11_draw_1 : decode cX11_draw 1 = .ok (.bipush 6, 2) := by decide +kernel
theorem dX11_draw_3 : decode cX11_draw 3 = .ok (.iload_n 1, 1) := by decide +kernel
theorem dX11_draw_4 : decode cX11_draw 4 = .ok (.iconst (-1), 1) := by decide +kernel
theorem dX11_draw_5 : decode cX11_draw 5 = .ok (.lload_n 2, 1) := by decide +kernel
theorem dX11_draw_6 : decode cX11_draw 6 = .ok (.invokevirtual 280, 3) := by decide +kernel
theorem dX11_draw_9 : decode cX11_draw 9 = .ok (.ireturn, 1) := by decide +kernel
set_option maxRecDepth 20000 in
theorem ggX11_swap_X11_act : GoodIn wsX11_swap wsX11_act := goodIn_r _ [5, 6, 7, 8, 9, 4, 10, 11, 12, 13, 14, 15, 16, 17, 18, 19, 20, 21, 22, 23, 24, 25, 26, 27, 28, 29, 30, 31, 32, 33, 34, 35, 36, 37, 38, 39, 40, 41, 42, 43, 44, 45, 46, 47, 48, 49, 50, 51, 52, 53, 54, 55, 56, 57, 58, 59, 60, 61, 62, 63, 64, 65, 66, 67, 68, 69, 70, 71, 72, 73, 74, 75, 76, 77, 78, 79, 80, 81, 82, 83, 84, 85, 86, 87, 88, 89, 90, 91, 92, 93, 94, 95, 96, 97, 98, 99, 100, 101, 102, 103, 104, 105, 106, 107, 108, 109, 110, 111, 112, 113, 114, 115, 116, 117, 118, 119, 120, 121, 122, 123, 124, 125, 126, 127, 128, 129, 130, 131, 132, 133, 134, 135, 136, 137, 138, 139, 140, 141, 142, 143, 144, 145, 146, 147, 148, 149, 150, 151, 152, 153, 154, 155, 156, 157, 158, 159, 160, 161, 162, 163, 164, 165, 166, 167, 168, 169, 170, 171, 172, 173, 174, 175, 176, 177, 178, 179, 180, 181, 182, 183, 184, 185, 186, 187, 188, 189, 190, 191, 192, 193, 194, 195, 196, 197, 198, 199, 200, 201, 202, 203, 204, 205, 206, 207, 208, 209, 210, 211, 212, 213, 214, 215, 216, 217, 218, 219, 220, 221, 222, 223, 224, 225, 226, 227, 228, 229, 230, 231, 232, 233, 234, 235, 236, 237, 238, 239, 240, 241, 242, 243, 244, 245, 246, 247, 248, 249, 250, 251, 252, 253, 254, 255, 256, 257, 258, 259, 260, 261, 262, 263, 264, 265, 266, 267, 268, 269, 270, 271, 272, 273, 274, 275, 276, 277, 278, 279, 280, 281, 282, 283, 284, 285, 286, 287, 288, 289, 290, 291, 292, 293, 294, 295, 296, 297] (by decide +kernel) (by decide +kernel)
set_option maxRecDepth 20000 in
theorem gX11_swap_X11_act : GoodIn wsX11_swap (wsV RX11 280 RX11 yX11_act wsX11_act) := goodIn_app (goodIn_of _ (by decide +kernel)) ggX11_swap_X11_act
theorem dX11_swap_0 : decode cX11_swap 0 = .ok (.aload_n 0, 1) := by decide +kernel
theorem dX11_swap_1 : decode cX11_swap 1 = .ok (.bipush 8, 2) := by decide +kernel
theorem dX11_swap_3 : decode cX11_swap 3 = .ok (.iload_n 1, 1) := by decide +kernel
theorem dX11_swap_4 : decode cX11_swap 4 = .ok (.iload_n 2, 1) := by decide +kernel
theorem dX11_swap_5 : decode cX11_swap 5 = .ok (.lconst 0, 1) := by decide +kernel
theorem dX11_swap_6 : decode cX11_swap 6 = .ok (.invokevirtual 280, 3) := by decide +kernel
theorem dX11_swap_9 : decode cX11_swap 9 = .ok (.ireturn, 1) := by decide +kernel
set_option maxRecDepth 20000 in
theorem ggX11_file_X11_act : GoodIn wsX11_file wsX11_act := goodIn_r _ [5, 6, 7, 8, 9, 4, 10, 11, 12, 13, 14, 15, 16, 17, 18, 19, 20, 21, 22, 23, 24, 25, 26, 27, 28, 29, 30, 31, 32, 33, 34, 35, 36, 37, 38, 39, 40, 41, 42, 43, 44, 45, 46, 47, 48, 49, 50, 51, 52, 53, 54, 55, 56, 57, 58, 59, 60, 61, 62, 63, 64, 65, 66, 67, 68, 69, 70, 71, 72, 73, 74, 75, 76, 77, 78, 79, 80, 81, 82, 83, 84, 85, 86, 87, 88, 89, 90, 91, 92, 93, 94, 95, 96, 97, 98, 99, 100, 101, 102, 103, 104, 105, 106, 107, 108, 109, 110, 111, 112, 113, 114, 115, 116, 117, 118, 119, 120, 121, 122, 123, 124, 125, 126, 127, 128, 129, 130, 131, 132, 133, 134, 135, 136, 137, 138, 139, 140, 141, 142, 143, 144, 145, 146, 147, 148, 149, 150, 151, 152, 153, 154, 155, 156, 157, 158, 159, 160, 161, 162, 163, 164, 165, 166, 167, 168, 169, 170, 171, 172, 173, 174, 175, 176, 177, 178, 179, 180, 181, 182, 183, 184, 185, 186, 187, 188, 189, 190, 191, 192, 193, 194, 195, 196, 197, 198, 199, 200, 201, 202, 203, 204, 205, 206, 207, 208, 209, 210, 211, 212, 213, 214, 215, 216, 217, 218, 219, 220, 221, 222, 223, 224, 225, 226, 227, 228, 229, 230, 231, 232, 233, 234, 235, 236, 237, 238, 239, 240, 241, 242, 243, 244, 245, 246, 247, 248, 249, 250, 251, 252, 253, 254, 255, 256, 257, 258, 259, 260, 261, 262, 263, 264, 265, 266, 267, 268, 269, 270, 271, 272, 273, 274, 275, 276, 277, 278, 279, 280, 281, 282, 283, 284, 285, 286, 287, 288, 289, 290, 291, 292, 293, 294, 295, 296, 297] (by decide +kernel) (by decide +kernel)
set_option maxRecDepth 20000 in
theorem gX11_file_X11_act : GoodIn wsX11_file (wsV RX11 280 RX11 yX11_act wsX11_act) := goodIn_app (goodIn_of _ (by decide +kernel)) ggX11_file_X11_act
theorem dX11_file_0 : decode cX11_file 0 = .ok (.aload_n 0, 1) := by decide +kernel
theorem dX11_file_1 : decode cX11_file 1 = .ok (.bipush 7, 2) := by decide +kernel
theorem dX11_file_3 : decode cX11_file 3 = .ok (.iload_n 1, 1) := by decide +kernel
theorem dX11_file_4 : decode cX11_file 4 = .ok (.iload_n 2, 1) := by decide +kernel
theorem dX11_file_5 : decode cX11_file 5 = .ok (.lconst 0, 1) := by decide +kernel
theorem dX11_file_6 : decode cX11_file 6 = .ok (.invokevirtual 280, 3) := by decide +kernel
theorem dX11_file_9 : decode cX11_file 9 = .ok (.ireturn, 1) := by decide +kernel
theorem dX11_shelf_0 : decode cX11_shelf 0 = .ok (.iload_n 1, 1) := by decide +kernel
theorem dX11_shelf_1 : decode cX11_shelf 1 = .ok (.ifCond .lt 25, 3) := by decide +kernel
theorem dX11_shelf_4 : decode cX11_shelf 4 = .ok (.iload_n 1, 1) := by decide +kernel
theorem dX11_shelf_5 : decode cX11_shelf 5 = .ok (.iconst 3, 1) := by decide +kernel
theorem dX11_shelf_6 : decode cX11_shelf 6 = .ok (.if_icmp .ge 20, 3) := by decide +kernel
theorem dX11_shelf_9 : decode cX11_shelf 9 = .ok (.iload_n 2, 1) := by decide +kernel
theorem dX11_shelf_10 : decode cX11_shelf 10 = .ok (.ifCond .lt 16, 3) := by decide +kernel
theorem dX11_shelf_13 : decode cX11_shelf 13 = .ok (.iload_n 2, 1) := by decide +kernel
theorem dX11_shelf_14 : decode cX11_shelf 14 = .ok (.aload_n 0, 1) := by decide +kernel
theorem dX11_shelf_15 : decode cX11_shelf 15 = .ok (.getfield 40, 3) := by decide +kernel
theorem dX11_shelf_18 : decode cX11_shelf 18 = .ok (.getfield 283, 3) := by decide +kernel
theorem dX11_shelf_21 : decode cX11_shelf 21 = .ok (.iload_n 1, 1) := by decide +kernel
theorem dX11_shelf_22 : decode cX11_shelf 22 = .ok (.iaload, 1) := by decide +kernel
theorem dX11_shelf_23 : decode cX11_shelf 23 = .ok (.if_icmp .lt 5, 3) := by decide +kernel
theorem dX11_shelf_26 : decode cX11_shelf 26 = .ok (.iconst (-1), 1) := by decide +kernel
theorem dX11_shelf_27 : decode cX11_shelf 27 = .ok (.ireturn, 1) := by decide +kernel
theorem dX11_shelf_28 : decode cX11_shelf 28 = .ok (.aload_n 0, 1) := by decide +kernel
theorem dX11_shelf_29 : decode cX11_shelf 29 = .ok (.getfield 40, 3) := by decide +kernel
theorem dX11_shelf_32 : decode cX11_shelf 32 = .ok (.getfield 286, 3) := by decide +kernel
theorem dX11_shelf_35 : decode cX11_shelf 35 = .ok (.iload_n 1, 1) := by decide +kernel
theorem dX11_shelf_36 : decode cX11_shelf 36 = .ok (.bipush 10, 2) := by decide +kernel
theorem dX11_shelf_38 : decode cX11_shelf 38 = .ok (.imul, 1) := by decide +kernel
theorem dX11_shelf_39 : decode cX11_shelf 39 = .ok (.iload_n 2, 1) := by decide +kernel
theorem dX11_shelf_40 : decode cX11_shelf 40 = .ok (.iadd, 1) := by decide +kernel
theorem dX11_shelf_41 : decode cX11_shelf 41 = .ok (.iaload, 1) := by decide +kernel
theorem dX11_shelf_42 : decode cX11_shelf 42 = .ok (.ireturn, 1) := by decide +kernel
set_option maxRecDepth 20000 in
theorem ggX11_years_X11_noField : GoodIn wsX11_years wsX11_noField := goodIn_r _ [7, 8, 9, 251, 252, 253, 254, 255, 256, 257, 258, 259, 260, 261, 262, 263, 264, 265, 266, 267, 268, 269, 270, 271, 272, 273, 274, 275, 276, 277, 278, 279, 280, 281, 282, 283, 284] (by decide +kernel) (by decide +kernel)
set_option maxRecDepth 20000 in
theorem gX11_years_X11_noField : GoodIn wsX11_years (wsV RX11 156 RX11 yX11_noField wsX11_noField) := goodIn_app (goodIn_of _ (by decide +kernel)) ggX11_years_X11_noField
set_option maxRecDepth 20000 in
theorem ggX11_years_X0_begin : GoodIn wsX11_years wsX0_begin := goodIn_r _ [14, 15, 285] (by decide +kernel) (by decide +kernel)
set_option maxRecDepth 20000 in
theorem gX11_years_X0_begin : GoodIn wsX11_years (wsV RX11 289 RX0 yX0_begin wsX0_begin) := goodIn_app (goodIn_of _ (by decide +kernel)) ggX11_years_X0_begin
set_option maxRecDepth 20000 in
theorem ggX11_years_X11_liveOneYear : GoodIn wsX11_years wsX11_liveOneYear := goodIn_r _ [19, 1, 8, 9, 20, 21, 22, 13, 23, 15, 24, 25, 26, 27, 28, 6, 29, 30, 2, 31, 32, 33, 34, 35, 36, 37, 38, 39, 40, 41, 42, 43, 44, 45, 46, 47, 48, 49, 50, 51, 52, 53, 54, 55, 56, 57, 58, 59, 60, 61, 62, 63, 64, 65, 66, 67, 68, 69, 70, 71, 72, 73, 74, 75, 76, 77, 78, 79, 80, 81, 82, 83, 84, 85, 86, 87, 88, 89, 90, 91, 92, 93, 94, 95, 96, 97, 98, 99, 100, 101, 102, 103, 104, 105, 106, 107, 108, 109, 110, 111, 112, 113, 114, 115, 116, 117, 118, 119, 120, 121, 122, 123, 124, 125, 126, 127, 128, 129, 130, 131, 132, 133, 134, 135, 136, 137, 138, 139, 140, 141, 142, 143, 144, 145, 146, 147, 148, 149, 150, 151, 152, 153, 154, 155, 156, 157, 158, 159, 160, 161, 162, 163, 164, 165, 166, 167, 168, 169, 170, 171, 172, 173, 174, 175, 176, 177, 178, 179, 180, 181, 182, 183, 184, 185, 186, 187, 188, 189, 190, 191, 192, 193, 194, 195, 196, 197, 198, 199, 200, 201, 202, 203, 204, 205, 206, 207, 208, 209, 210, 211, 212, 213, 11, 12, 14, 214, 215, 216, 217, 218, 219, 220, 221, 222, 223, 224, 225, 226, 227, 228, 229, 230, 231, 232, 233, 234, 235, 236, 237, 238, 239, 240, 241, 242, 243, 244, 245, 246, 247, 248, 249, 250, 251, 252, 253, 254, 255, 256, 257, 258, 259, 260, 261, 262, 263, 264, 265, 266, 267, 268, 269, 270, 271, 272, 273, 274, 275, 276, 277, 278, 279, 280, 281, 282, 283, 284, 285, 286, 287, 288, 289, 290, 291, 292, 293, 294, 295, 296, 297, 298, 299, 300, 301, 302, 303, 304, 305, 306, 307] (by decide +kernel) (by decide +kernel)
set_option maxRecDepth 20000 in
theorem gX11_years_X11_liveOneYear : GoodIn wsX11_years (wsV RX11 292 RX11 yX11_liveOneYear wsX11_liveOneYear) := goodIn_app (goodIn_of _ (by decide +kernel)) ggX11_years_X11_liveOneYear
set_option maxRecDepth 20000 in
theorem ggX11_years_X9_knownCount : GoodIn wsX11_years wsX9_knownCount := goodIn_r _ [193, 149, 296, 297, 298, 299, 300] (by decide +kernel) (by decide +kernel)
set_option maxRecDepth 20000 in
theorem gX11_years_X9_knownCount : GoodIn wsX11_years (wsV RX11 269 RX9 yX9_knownCount wsX9_knownCount) := goodIn_app (goodIn_of _ (by decide +kernel)) ggX11_years_X9_knownCount
theorem dX11_years_0 : decode cX11_years 0 = .ok (.aload_n 0, 1) := by decide +kernel
theorem dX11_years_1 : decode cX11_years 1 = .ok (.invokevirtual 156, 3) := by decide +kernel
theorem dX11_years_4 : decode cX11_years 4 = .ok (.ifCond .ne 14, 3) := by decide +kernel
theorem dX11_years_7 : decode cX11_years 7 = .ok (.iload_n 1, 1) := by decide +kernel
theorem dX11_years_8 : decode cX11_years 8 = .ok (.iconst 1, 1) := by decide +kernel
theorem dX11_years_9 : decode cX11_years 9 = .ok (.if_icmp .lt 9, 3) := by decide +kernel
theorem dX11_years_12 : decode cX11_years 12 = .ok (.iload_n 1, 1) := by decide +kernel
theorem dX11_years_13 : decode cX11_years 13 = .ok (.bipush 40, 2) := by decide +kernel
theorem dX11_years_15 : decode cX11_years 15 = .ok (.if_icmp .le 5, 3) := by decide +kernel
theorem dX11_years_18 : decode cX11_years 18 = .ok (.iconst (-1), 1) := by decide +kernel
theorem dX11_years_19 : decode cX11_years 19 = .ok (.ireturn, 1) := by decide +kernel
theorem dX11_years_20 : decode cX11_years 20 = .ok (.aload_n 0, 1) := by decide +kernel
theorem dX11_years_21 : decode cX11_years 21 = .ok (.getfield 74, 3) := by decide +kernel
theorem dX11_years_24 : decode cX11_years 24 = .ok (.lload_n 2, 1) := by decide +kernel
theorem dX11_years_25 : decode cX11_years 25 = .ok (.invokevirtual 289, 3) := by decide +kernel
theorem dX11_years_28 : decode cX11_years 28 = .ok (.iconst 0, 1) := by decide +kernel
theorem dX11_years_29 : decode cX11_years 29 = .ok (.istore 4, 2) := by decide +kernel
theorem dX11_years_31 : decode cX11_years 31 = .ok (.iload 4, 2) := by decide +kernel
theorem dX11_years_33 : decode cX11_years 33 = .ok (.iload_n 1, 1) := by decide +kernel
theorem dX11_years_34 : decode cX11_years 34 = .ok (.if_icmp .ge 13, 3) := by decide +kernel
theorem dX11_years_37 : decode cX11_years 37 = .ok (.aload_n 0, 1) := by decide +kernel
theorem dX11_years_38 : decode cX11_years 38 = .ok (.invokevirtual 292, 3) := by decide +kernel
theorem dX11_years_41 : decode cX11_years 41 = .ok (.iinc 4 1, 3) := by decide +kernel
theorem dX11_years_44 : decode cX11_years 44 = .ok (.goto (-13), 3) := by decide +kernel
theorem dX11_years_47 : decode cX11_years 47 = .ok (.aload_n 0, 1) := by decide +kernel
theorem dX11_years_48 : decode cX11_years 48 = .ok (.getfield 40, 3) := by decide +kernel
theorem dX11_years_51 : decode cX11_years 51 = .ok (.invokevirtual 269, 3) := by decide +kernel
theorem dX11_years_54 : decode cX11_years 54 = .ok (.ireturn, 1) := by decide +kernel
set_option maxRecDepth 20000 in
theorem ggX11_liveOneYear_X0_cast : GoodIn wsX11_liveOneYear wsX0_cast := goodIn_r _ [8, 9, 10, 11, 276] (by decide +kernel) (by decide +kernel)
set_option maxRecDepth 20000 in
theorem gX11_liveOneYear_X0_cast : GoodIn wsX11_liveOneYear (wsV RX11 295 RX0 yX0_cast wsX0_cast) := goodIn_app (goodIn_of _ (by decide +kernel)) ggX11_liveOneYear_X0_cast
set_option maxRecDepth 20000 in
theorem ggX11_liveOneYear_X11_attempt : GoodIn wsX11_liveOneYear wsX11_attempt := goodIn_r _ [16, 17, 18, 19, 20, 21, 22, 23, 24, 25, 26, 27, 28, 29, 30, 31, 32, 33, 34, 35, 36, 37, 38, 39, 40, 41, 42, 43, 44, 45, 46, 47, 48, 49, 50, 51, 52, 53, 54, 55, 56, 57, 58, 59, 60, 61, 62, 63, 64, 65, 66, 67, 68, 69, 70, 71, 72, 73, 74, 75, 76, 77, 78, 79, 80, 81, 82, 83, 84, 85, 86, 87, 88, 89, 90, 91, 92, 93, 94, 95, 96, 97, 98, 99, 100, 101, 102, 103, 104, 105, 106, 107, 108, 109, 110, 111, 112, 113, 114, 115, 116, 117, 118, 119, 120, 121, 122, 123, 124, 125, 126, 127, 128, 129, 130, 131, 132, 133, 134, 135, 136, 137, 138, 139, 140, 141, 142, 143, 144, 145, 146, 147, 148, 149, 150, 151, 152, 153, 154, 155, 156, 157, 158, 159, 160, 161, 162, 163, 164, 165, 166, 167, 168, 169, 170, 171, 172, 173, 174, 175, 176, 177, 178, 179, 180, 181, 182, 183, 184, 185, 186, 187, 188, 189, 190, 191, 192, 193, 194, 195, 196, 197, 198, 199, 200, 201, 202, 203, 7, 204, 9, 205, 206, 207, 208, 209, 210, 211, 5, 6, 8, 10, 11, 212, 213, 214, 215, 216, 217, 218, 219, 220, 221, 222, 223, 224, 225, 226, 227, 228, 229, 230, 231, 232, 233, 234, 235, 236, 237, 238, 239, 242, 243, 244, 245, 246, 247, 248, 249, 250, 251, 252, 253, 254, 255, 256, 257, 258, 259, 260, 277, 278, 279, 261, 262, 263, 264, 265, 266, 267, 268, 269, 270, 271, 272, 273, 274, 275, 280, 281, 282, 283, 284, 285, 286, 287, 288, 289, 290, 291, 292, 293, 294, 276, 295, 296, 297, 298] (by decide +kernel) (by decide +kernel)
set_option maxRecDepth 20000 in
theorem gX11_liveOneYear_X11_attempt : GoodIn wsX11_liveOneYear (wsV RX11 276 RX11 yX11_attempt wsX11_attempt) := goodIn_app (goodIn_of _ (by decide +kernel)) ggX11_liveOneYear_X11_attempt
set_option maxRecDepth 20000 in
theorem ggX11_liveOneYear_X1_reachFrom : GoodIn wsX11_liveOneYear wsX1_reachFrom := goodIn_r _ [56, 50, 52, 261, 262, 263, 264, 265, 266, 267, 268, 269, 270, 271, 272, 273, 274, 275] (by decide +kernel) (by decide +kernel)
set_option maxRecDepth 20000 in
theorem gX11_liveOneYear_X1_reachFrom : GoodIn wsX11_liveOneYear (wsV RX11 298 RX1 yX1_reachFrom wsX1_reachFrom) := goodIn_app (goodIn_of _ (by decide +kernel)) ggX11_liveOneYear_X1_reachFrom
set_option maxRecDepth 20000 in
theorem ggX11_liveOneYear_X1_reachTo : GoodIn wsX11_liveOneYear wsX1_reachTo := goodIn_r _ [49, 50, 51, 52, 261, 262, 263, 264, 265, 266, 267, 268, 269, 270, 271, 272, 273, 274, 275] (by decide +kernel) (by decide +kernel)
set_option maxRecDepth 20000 in
theorem gX11_liveOneYear_X1_reachTo : GoodIn wsX11_liveOneYear (wsV RX11 301 RX1 yX1_reachTo wsX1_reachTo) := goodIn_app (goodIn_of _ (by decide +kernel)) ggX11_liveOneYear_X1_reachTo
theorem dX11_liveOneYear_0 : decode cX11_liveOneYear 0 = .ok (.aload_n 0, 1) := by decide +kernel
theorem dX11_liveOneYear_1 : decode cX11_liveOneYear 1 = .ok (.getfield 74, 3) := by decide +kernel
theorem dX11_liveOneYear_4 : decode cX11_liveOneYear 4 = .ok (.bipush 8, 2) := by decide +kernel
theorem dX11_liveOneYear_6 : decode cX11_liveOneYear 6 = .ok (.invokevirtual 295, 3) := by decide +kernel
theorem dX11_liveOneYear_9 : decode cX11_liveOneYear 9 = .ok (.istore_n 1, 1) := by decide +kernel
theorem dX11_liveOneYear_10 : decode cX11_liveOneYear 10 = .ok (.iload_n 1, 1) := by decide +kernel
theorem dX11_liveOneYear_11 : decode cX11_liveOneYear 11 = .ok (.iconst 2, 1) := by decide +kernel
theorem dX11_liveOneYear_12 : decode cX11_liveOneYear 12 = .ok (.if_icmp .ge 15, 3) := by decide +kernel
theorem dX11_liveOneYear_15 : decode cX11_liveOneYear 15 = .ok (.aload_n 0, 1) := by decide +kernel
theorem dX11_liveOneYear_16 : decode cX11_liveOneYear 16 = .ok (.iconst 0, 1) := by decide +kernel
theorem dX11_liveOneYear_17 : decode cX11_liveOneYear 17 = .ok (.iconst (-1), 1) := by decide +kernel
theorem dX11_liveOneYear_18 : decode cX11_liveOneYear 18 = .ok (.iconst (-1), 1) := by decide +kernel
theorem dX11_liveOneYear_19 : decode cX11_liveOneYear 19 = .ok (.lconst 0, 1) := by decide +kernel
theorem dX11_liveOneYear_20 : decode cX11_liveOneYear 20 = .ok (.invokevirtual 276, 3) := by decide +kernel
theorem dX11_liveOneYear_23 : decode cX11_liveOneYear 23 = .ok (.pop, 1) := by decide +kernel
theorem dX11_liveOneYear_24 : decode cX11_liveOneYear 24 = .ok (.goto 123, 3) := by decide +kernel
theorem dX11_liveOneYear_27 : decode cX11_liveOneYear 27 = .ok (.iload_n 1, 1) := by decide +kernel
theorem dX11_liveOneYear_28 : decode cX11_liveOneYear 28 = .ok (.iconst 2, 1) := by decide +kernel
theorem dX11_liveOneYear_29 : decode cX11_liveOneYear 29 = .ok (.if_icmp .ne 15, 3) := by decide +kernel
theorem dX11_liveOneYear_32 : decode cX11_liveOneYear 32 = .ok (.aload_n 0, 1) := by decide +kernel
theorem dX11_liveOneYear_33 : decode cX11_liveOneYear 33 = .ok (.iconst 1, 1) := by decide +kernel
theorem dX11_liveOneYear_34 : decode cX11_liveOneYear 34 = .ok (.iconst (-1), 1) := by decide +kernel
theorem dX11_liveOneYear_35 : decode cX11_liveOneYear 35 = .ok (.iconst (-1), 1) := by decide +kernel
theorem dX11_liveOneYear_36 : decode cX11_liveOneYear 36 = .ok (.lconst 0, 1) := by decide +kernel
theorem dX11_liveOneYear_37 : decode cX11_liveOneYear 37 = .ok (.invokevirtual 276, 3) := by decide +kernel
theorem dX11_liveOneYear_40 : decode cX11_liveOneYear 40 = .ok (.pop, 1) := by decide +kernel
theorem dX11_liveOneYear_41 : decode cX11_liveOneYear 41 = .ok (.goto 106, 3) := by decide +kernel
theorem dX11_liveOneYear_44 : decode cX11_liveOneYear 44 = .ok (.iload_n 1, 1) := by decide +kernel
theorem dX11_liveOneYear_45 : decode cX11_liveOneYear 45 = .ok (.bipush 7, 2) := by decide +kernel
theorem dX11_liveOneYear_47 : decode cX11_liveOneYear 47 = .ok (.if_icmp .ne 23, 3) := by decide +kernel
theorem dX11_liveOneYear_50 : decode cX11_liveOneYear 50 = .ok (.aload_n 0, 1) := by decide +kernel
theorem dX11_liveOneYear_51 : decode cX11_liveOneYear 51 = .ok (.iconst 5, 1) := by decide +kernel
theorem dX11_liveOneYear_52 : decode cX11_liveOneYear 52 = .ok (.aload_n 0, 1) := by decide +kernel
theorem dX11_liveOneYear_53 : decode cX11_liveOneYear 53 = .ok (.getfield 74, 3) := by decide +kernel
theorem dX11_liveOneYear_56 : decode cX11_liveOneYear 56 = .ok (.bipush 30, 2) := by decide +kernel
theorem dX11_liveOneYear_58 : decode cX11_liveOneYear 58 = .ok (.invokevirtual 295, 3) := by decide +kernel
theorem dX11_liveOneYear_61 : decode cX11_liveOneYear 61 = .ok (.iconst (-1), 1) := by decide +kernel
theorem dX11_liveOneYear_62 : decode cX11_liveOneYear 62 = .ok (.lconst 0, 1) := by decide +kernel
theorem dX11_liveOneYear_63 : decode cX11_liveOneYear 63 = .ok (.invokevirtual 276, 3) := by decide +kernel
theorem dX11_liveOneYear_66 : decode cX11_liveOneYear 66 = .ok (.pop, 1) := by decide +kernel
theorem dX11_liveOneYear_67 : decode cX11_liveOneYear 67 = .ok (.goto 80, 3) := by decide +kernel
theorem dX11_liveOneYear_70 : decode cX11_liveOneYear 70 = .ok (.aload_n 0, 1) := by decide +kernel
theorem dX11_liveOneYear_71 : decode cX11_liveOneYear 71 = .ok (.getfield 74, 3) := by decide +kernel
theorem dX11_liveOneYear_74 : decode cX11_liveOneYear 74 = .ok (.aload_n 0, 1) := by decide +kernel
theorem dX11_liveOneYear_75 : decode cX11_liveOneYear 75 = .ok (.getfield 23, 3) := by decide +kernel
theorem dX11_liveOneYear_78 : decode cX11_liveOneYear 78 = .ok (.getfield 147, 3) := by decide +kernel
theorem dX11_liveOneYear_81 : decode cX11_liveOneYear 81 = .ok (.invokevirtual 295, 3) := by decide +kernel
theorem dX11_liveOneYear_84 : decode cX11_liveOneYear 84 = .ok (.istore_n 2, 1) := by decide +kernel
theorem dX11_liveOneYear_85 : decode cX11_liveOneYear 85 = .ok (.iload_n 1, 1) := by decide +kernel
theorem dX11_liveOneYear_86 : decode cX11_liveOneYear 86 = .ok (.iconst 5, 1) := by decide +kernel
theorem dX11_liveOneYear_87 : decode cX11_liveOneYear 87 = .ok (.if_icmp .ge 24, 3) := by decide +kernel
theorem dX11_liveOneYear_90 : decode cX11_liveOneYear 90 = .ok (.aload_n 0, 1) := by decide +kernel
theorem dX11_liveOneYear_91 : decode cX11_liveOneYear 91 = .ok (.iload_n 1, 1) := by decide +kernel
theorem dX11_liveOneYear_92 : decode cX11_liveOneYear 92 = .ok (.iconst 3, 1) := by decide +kernel
theorem dX11_liveOneYear_93 : decode cX11_liveOneYear 93 = .ok (.if_icmp .ne 7, 3) := by decide +kernel
theorem dX11_liveOneYear_96 : decode cX11_liveOneYear 96 = .ok (.iconst 2, 1) := by decide +kernel
theorem dX11_liveOneYear_97 : decode cX11_liveOneYear 97 = .ok (.goto 4, 3) := by decide +kernel
theorem dX11_liveOneYear_100 : decode cX11_liveOneYear 100 = .ok (.iconst 3, 1) := by decide +kernel
theorem dX11_liveOneYear_101 : decode cX11_liveOneYear 101 = .ok (.iload_n 2, 1) := by decide +kernel
theorem dX11_liveOneYear_102 : decode cX11_liveOneYear 102 = .ok (.iconst (-1), 1) := by decide +kernel
theorem dX11_liveOneYear_103 : decode cX11_liveOneYear 103 = .ok (.lconst 0, 1) := by decide +kernel
theorem dX11_liveOneYear_104 : decode cX11_liveOneYear 104 = .ok (.invokevirtual 276, 3) := by decide +kernel
theorem dX11_liveOneYear_107 : decode cX11_liveOneYear 107 = .ok (.pop, 1) := by decide +kernel
theorem dX11_liveOneYear_108 : decode cX11_liveOneYear 108 = .ok (.goto 39, 3) := by decide +kernel
theorem dX11_liveOneYear_111 : decode cX11_liveOneYear 111 = .ok (.aload_n 0, 1) := by decide +kernel
theorem dX11_liveOneYear_112 : decode cX11_liveOneYear 112 = .ok (.getfield 23, 3) := by decide +kernel
theorem dX11_liveOneYear_115 : decode cX11_liveOneYear 115 = .ok (.iload_n 2, 1) := by decide +kernel
theorem dX11_liveOneYear_116 : decode cX11_liveOneYear 116 = .ok (.invokevirtual 298, 3) := by decide +kernel
theorem dX11_liveOneYear_119 : decode cX11_liveOneYear 119 = .ok (.istore_n 3, 1) := by decide +kernel
theorem dX11_liveOneYear_120 : decode cX11_liveOneYear 120 = .ok (.aload_n 0, 1) := by decide +kernel
theorem dX11_liveOneYear_121 : decode cX11_liveOneYear 121 = .ok (.iconst 4, 1) := by decide +kernel
theorem dX11_liveOneYear_122 : decode cX11_liveOneYear 122 = .ok (.iload_n 2, 1) := by decide +kernel
theorem dX11_liveOneYear_123 : decode cX11_liveOneYear 123 = .ok (.iload_n 3, 1) := by decide +kernel
theorem dX11_liveOneYear_124 : decode cX11_liveOneYear 124 = .ok (.aload_n 0, 1) := by decide +kernel
theorem dX11_liveOneYear_125 : decode cX11_liveOneYear 125 = .ok (.getfield 74, 3) := by decide +kernel
theorem dX11_liveOneYear_128 : decode cX11_liveOneYear 128 = .ok (.aload_n 0, 1) := by decide +kernel
theorem dX11_liveOneYear_129 : decode cX11_liveOneYear 129 = .ok (.getfield 23, 3) := by decide +kernel
theorem dX11_liveOneYear_132 : decode cX11_liveOneYear 132 = .ok (.iload_n 2, 1) := by decide +kernel
theorem dX11_liveOneYear_133 : decode cX11_liveOneYear 133 = .ok (.invokevirtual 301, 3) := by decide +kernel
theorem dX11_liveOneYear_136 : decode cX11_liveOneYear 136 = .ok (.iload_n 3, 1) := by decide +kernel
theorem dX11_liveOneYear_137 : decode cX11_liveOneYear 137 = .ok (.isub, 1) := by decide +kernel
theorem dX11_liveOneYear_138 : decode cX11_liveOneYear 138 = .ok (.invokevirtual 295, 3) := by decide +kernel
theorem dX11_liveOneYear_141 : decode cX11_liveOneYear 141 = .ok (.iadd, 1) := by decide +kernel
theorem dX11_liveOneYear_142 : decode cX11_liveOneYear 142 = .ok (.lconst 0, 1) := by decide +kernel
theorem dX11_liveOneYear_143 : decode cX11_liveOneYear 143 = .ok (.invokevirtual 276, 3) := by decide +kernel
theorem dX11_liveOneYear_146 : decode cX11_liveOneYear 146 = .ok (.pop, 1) := by decide +kernel
theorem dX11_liveOneYear_147 : decode cX11_liveOneYear 147 = .ok (.return_, 1) := by decide +kernel
theorem dX11_status_0 : decode cX11_status 0 = .ok (.iload_n 1, 1) := by decide +kernel
theorem dX11_status_1 : decode cX11_status 1 = .ok (.ifCond .lt 8, 3) := by decide +kernel
theorem dX11_status_4 : decode cX11_status 4 = .ok (.iload_n 1, 1) := by decide +kernel
theorem dX11_status_5 : decode cX11_status 5 = .ok (.iconst 4, 1) := by decide +kernel
theorem dX11_status_6 : decode cX11_status 6 = .ok (.if_icmp .lt 7, 3) := by decide +kernel
theorem dX11_status_9 : decode cX11_status 9 = .ok (.iconst (-1), 1) := by decide +kernel
theorem dX11_status_10 : decode cX11_status 10 = .ok (.goto 9, 3) := by decide +kernel
theorem dX11_status_13 : decode cX11_status 13 = .ok (.aload_n 0, 1) := by decide +kernel
theorem dX11_status_14 : decode cX11_status 14 = .ok (.getfield 67, 3) := by decide +kernel
theorem dX11_status_17 : decode cX11_status 17 = .ok (.iload_n 1, 1) := by decide +kernel
theorem dX11_status_18 : decode cX11_status 18 = .ok (.iaload, 1) := by decide +kernel
theorem dX11_status_19 : decode cX11_status 19 = .ok (.ireturn, 1) := by decide +kernel
set_option maxRecDepth 20000 in
theorem ggX11_undo_X3_giveBack : GoodIn wsX11_undo wsX3_giveBack := goodIn_r _ [10, 11, 12, 13, 14, 15, 16, 17, 18, 19, 20, 21, 22, 23, 24, 25, 26, 27, 47, 48, 49, 54, 55, 56, 57, 58] (by decide +kernel) (by decide +kernel)
set_option maxRecDepth 20000 in
theorem gX11_undo_X3_giveBack : GoodIn wsX11_undo (wsV RX11 304 RX3 yX3_giveBack wsX3_giveBack) := goodIn_app (goodIn_of _ (by decide +kernel)) ggX11_undo_X3_giveBack
theorem dX11_undo_0 : decode cX11_undo 0 = .ok (.aload_n 0, 1) := by decide +kernel
theorem dX11_undo_1 : decode cX11_undo 1 = .ok (.getfield 63, 3) := by decide +kernel
theorem dX11_undo_4 : decode cX11_undo 4 = .ok (.getfield 140, 3) := by decide +kernel
theorem dX11_undo_7 : decode cX11_undo 7 = .ok (.ifCond .ne 5, 3) := by decide +kernel
theorem dX11_undo_10 : decode cX11_undo 10 = .ok (.iconst (-1), 1) := by decide +kernel
theorem dX11_undo_11 : decode cX11_undo 11 = .ok (.ireturn, 1) := by decide +kernel
theorem dX11_undo_12 : decode cX11_undo 12 = .ok (.aload_n 0, 1) := by decide +kernel
theorem dX11_undo_13 : decode cX11_undo 13 = .ok (.getfield 63, 3) := by decide +kernel
theorem dX11_undo_16 : decode cX11_undo 16 = .ok (.aload_n 0, 1) := by decide +kernel
theorem dX11_undo_17 : decode cX11_undo 17 = .ok (.getfield 40, 3) := by decide +kernel
theorem dX11_undo_20 : decode cX11_undo 20 = .ok (.invokevirtual 304, 3) := by decide +kernel
theorem dX11_undo_23 : decode cX11_undo 23 = .ok (.aload_n 0, 1) := by decide +kernel
theorem dX11_undo_24 : decode cX11_undo 24 = .ok (.getfield 53, 3) := by decide +kernel
theorem dX11_undo_27 : decode cX11_undo 27 = .ok (.dup, 1) := by decide +kernel
theorem dX11_undo_28 : decode cX11_undo 28 = .ok (.getfield 139, 3) := by decide +kernel
theorem dX11_undo_31 : decode cX11_undo 31 = .ok (.iconst 1, 1) := by decide +kernel
theorem dX11_undo_32 : decode cX11_undo 32 = .ok (.isub, 1) := by decide +kernel
theorem dX11_undo_33 : decode cX11_undo 33 = .ok (.putfield 139, 3) := by decide +kernel
theorem dX11_undo_36 : decode cX11_undo 36 = .ok (.aload_n 0, 1) := by decide +kernel
theorem dX11_undo_37 : decode cX11_undo 37 = .ok (.getfield 63, 3) := by decide +kernel
theorem dX11_undo_40 : decode cX11_undo 40 = .ok (.getfield 140, 3) := by decide +kernel
theorem dX11_undo_43 : decode cX11_undo 43 = .ok (.ireturn, 1) := by decide +kernel
set_option maxRecDepth 20000 in
theorem ggX11_log_X4_seen : GoodIn wsX11_log wsX4_seen := goodIn_r _ [7, 8, 9, 10, 11, 12, 43, 44, 45, 46] (by decide +kernel) (by decide +kernel)
set_option maxRecDepth 20000 in
theorem gX11_log_X4_seen : GoodIn wsX11_log (wsV RX11 307 RX4 yX4_seen wsX4_seen) := goodIn_app (goodIn_of _ (by decide +kernel)) ggX11_log_X4_seen
set_option maxRecDepth 20000 in
theorem ggX11_log_X4_entry : GoodIn wsX11_log wsX4_entry := goodIn_r _ [16, 8, 17, 18, 19, 20, 21, 22, 23, 43, 44, 45, 46] (by decide +kernel) (by decide +kernel)
set_option maxRecDepth 20000 in
theorem gX11_log_X4_entry : GoodIn wsX11_log (wsV RX11 310 RX4 yX4_entry wsX4_entry) := goodIn_app (goodIn_of _ (by decide +kernel)) ggX11_log_X4_entry
theorem dX11_log_0 : decode cX11_log 0 = .ok (.iload_n 1, 1) := by decide +kernel
theorem dX11_log_1 : decode cX11_log 1 = .ok (.ifCond .lt 23, 3) := by decide +kernel
theorem dX11_log_4 : decode cX11_log 4 = .ok (.iload_n 1, 1) := by decide +kernel
theorem dX11_log_5 : decode cX11_log 5 = .ok (.aload_n 0, 1) := by decide +kernel
theorem dX11_log_6 : decode cX11_log 6 = .ok (.getfield 53, 3) := by decide +kernel
theorem dX11_log_9 : decode cX11_log 9 = .ok (.invokevirtual 307, 3) := by decide +kernel
theorem dX11_log_12 : decode cX11_log 12 = .ok (.if_icmp .ge 12, 3) := by decide +kernel
theorem dX11_log_15 : decode cX11_log 15 = .ok (.iload_n 2, 1) := by decide +kernel
theorem dX11_log_16 : decode cX11_log 16 = .ok (.ifCond .lt 8, 3) := by decide +kernel
theorem dX11_log_19 : decode cX11_log 19 = .ok (.iload_n 2, 1) := by decide +kernel
theorem dX11_log_20 : decode cX11_log 20 = .ok (.iconst 2, 1) := by decide +kernel
theorem dX11_log_21 : decode cX11_log 21 = .ok (.if_icmp .le 6, 3) := by decide +kernel
theorem dX11_log_24 : decode cX11_log 24 = .ok (.ldc 246, 2) := by decide +kernel
theorem dX11_log_26 : decode cX11_log 26 = .ok (.ireturn, 1) := by decide +kernel
theorem dX11_log_27 : decode cX11_log 27 = .ok (.aload_n 0, 1) := by decide +kernel
theorem dX11_log_28 : decode cX11_log 28 = .ok (.getfield 53, 3) := by decide +kernel
theorem dX11_log_31 : decode cX11_log 31 = .ok (.iload_n 1, 1) := by decide +kernel
theorem dX11_log_32 : decode cX11_log 32 = .ok (.iload_n 2, 1) := by decide +kernel
theorem dX11_log_33 : decode cX11_log 33 = .ok (.invokevirtual 310, 3) := by decide +kernel
theorem dX11_log_36 : decode cX11_log 36 = .ok (.ireturn, 1) := by decide +kernel
set_option maxRecDepth 20000 in
theorem ggX11_solved_X11_noField : GoodIn wsX11_solved wsX11_noField := goodIn_r _ [10, 4, 11, 97, 98, 99, 100, 101, 102, 103, 104, 105, 106, 107, 108, 109, 110, 111, 112, 113, 114, 115, 123, 124, 125, 126, 127, 128, 129, 130, 131, 132, 133, 134, 135, 136, 137] (by decide +kernel) (by decide +kernel)
set_option maxRecDepth 20000 in
theorem gX11_solved_X11_noField : GoodIn wsX11_solved (wsV RX11 156 RX11 yX11_noField wsX11_noField) := goodIn_app (goodIn_of _ (by decide +kernel)) ggX11_solved_X11_noField
set_option maxRecDepth 20000 in
theorem ggX11_solved_X7_lookAt : GoodIn wsX11_solved wsX7_lookAt := goodIn_r _ [16, 17, 18, 19, 20, 21, 22, 23, 24, 25, 26, 27, 28, 29, 30, 31, 32, 33, 34, 35, 36, 37, 38, 39, 40, 41, 42, 43, 44, 45, 46, 47, 15, 48, 49, 50, 116, 117, 118, 119, 120, 121, 122, 123, 124, 125, 126, 127, 128, 129, 130, 131, 132, 133, 134, 135, 136, 137, 138, 139, 140, 141, 142] (by decide +kernel) (by decide +kernel)
set_option maxRecDepth 20000 in
theorem gX11_solved_X7_lookAt : GoodIn wsX11_solved (wsV RX11 207 RX7 yX7_lookAt wsX7_lookAt) := goodIn_app (goodIn_of _ (by decide +kernel)) ggX11_solved_X7_lookAt
set_option maxRecDepth 20000 in
theorem ggX11_solved_X6_roundsTillStuck : GoodIn wsX11_solved wsX6_roundsTillStuck := goodIn_r _ [55, 56, 57, 58, 59, 60, 15, 61, 19, 62, 63, 64, 30, 65, 34, 33, 66, 67, 68, 69, 17, 50, 70, 71, 72, 73, 20, 49, 74, 75, 76, 143, 144, 116, 117, 118, 119, 120, 121, 122, 123, 124, 125, 126, 127, 128, 129, 130, 131, 132, 133, 134, 135, 136, 137] (by decide +kernel) (by decide +kernel)
set_option maxRecDepth 20000 in
theorem gX11_solved_X6_roundsTillStuck : GoodIn wsX11_solved (wsV RX11 313 RX6 yX6_roundsTillStuck wsX6_roundsTillStuck) := goodIn_app (goodIn_of _ (by decide +kernel)) ggX11_solved_X6_roundsTillStuck
set_option maxRecDepth 20000 in
theorem ggX11_solved_X1_everyone : GoodIn wsX11_solved wsX1_everyone := goodIn_r _ [80, 81, 123, 124, 125, 126, 127, 128, 129, 130, 131, 132, 133, 134, 135, 136, 137] (by decide +kernel) (by decide +kernel)
set_option maxRecDepth 20000 in
theorem gX11_solved_X1_everyone : GoodIn wsX11_solved (wsV RX11 316 RX1 yX1_everyone wsX1_everyone) := goodIn_app (goodIn_of _ (by decide +kernel)) ggX11_solved_X1_everyone
set_option maxRecDepth 20000 in
theorem ggX11_solved_X7_stuckOf : GoodIn wsX11_solved wsX7_stuckOf := goodIn_r _ [85, 19, 62, 63, 64, 30, 65, 34, 33, 86, 87, 88, 15, 89, 66, 67, 68, 69, 17, 50, 70, 71, 72, 73, 20, 49, 74, 75, 76, 116, 117, 118, 119, 120, 121, 122, 123, 124, 125, 126, 127, 128, 129, 130, 131, 132, 133, 134, 135, 136, 137] (by decide +kernel) (by decide +kernel)
set_option maxRecDepth 20000 in
theorem gX11_solved_X7_stuckOf : GoodIn wsX11_solved (wsV RX11 319 RX7 yX7_stuckOf wsX7_stuckOf) := goodIn_app (goodIn_of _ (by decide +kernel)) ggX11_solved_X7_stuckOf
set_option maxRecDepth 20000 in
theorem ggX11_solved_J6_bitCount_0f7a4 : GoodIn wsX11_solved wsJ6_bitCount_0f7a4 := goodIn_r _ [93, 94, 95, 96] (by decide +kernel) (by decide +kernel)
set_option maxRecDepth 20000 in
theorem gX11_solved_J6_bitCount_0f7a4 : GoodIn wsX11_solved (va_wsS RX11 250 yJ6_bitCount_0f7a4 wsJ6_bitCount_0f7a4) := goodIn_app (goodIn_of _ (by decide +kernel)) ggX11_solved_J6_bitCount_0f7a4
theorem dX11_solved_0 : decode cX11_solved 0 = .ok (.aload_n 0, 1) := by decide +kernel
theorem dX11_solved_1 : decode cX11_solved 1 = .ok (.invokevirtual 156, 3) := by decide +kernel
theorem dX11_solved_4 : decode cX11_solved 4 = .ok (.ifCond .ne 12, 3) := by decide +kernel
theorem dX11_solved_7 : decode cX11_solved 7 = .ok (.iload_n 1, 1) := by decide +kernel
theorem dX11_solved_8 : decode cX11_solved 8 = .ok (.ifCond .lt 8, 3) := by decide +kernel
theorem dX11_solved_11 : decode cX11_solved 11 = .ok (.iload_n 1, 1) := by decide +kernel
theorem dX11_solved_12 : decode cX11_solved 12 = .ok (.iconst 2, 1) := by decide +kernel
theorem dX11_solved_13 : decode cX11_solved 13 = .ok (.if_icmp .le 5, 3) := by decide +kernel
theorem dX11_solved_16 : decode cX11_solved 16 = .ok (.iconst (-1), 1) := by decide +kernel
theorem dX11_solved_17 : decode cX11_solved 17 = .ok (.ireturn, 1) := by decide +kernel
theorem dX11_solved_18 : decode cX11_solved 18 = .ok (.aload_n 0, 1) := by decide +kernel
theorem dX11_solved_19 : decode cX11_solved 19 = .ok (.getfield 83, 3) := by decide +kernel
theorem dX11_solved_22 : decode cX11_solved 22 = .ok (.aload_n 0, 1) := by decide +kernel
theorem dX11_solved_23 : decode cX11_solved 23 = .ok (.getfield 40, 3) := by decide +kernel
theorem dX11_solved_26 : decode cX11_solved 26 = .ok (.invokevirtual 207, 3) := by decide +kernel
theorem dX11_solved_29 : decode cX11_solved 29 = .ok (.iload_n 1, 1) := by decide +kernel
theorem dX11_solved_30 : decode cX11_solved 30 = .ok (.iconst 2, 1) := by decide +kernel
theorem dX11_solved_31 : decode cX11_solved 31 = .ok (.if_icmp .ne 11, 3) := by decide +kernel
theorem dX11_solved_34 : decode cX11_solved 34 = .ok (.aload_n 0, 1) := by decide +kernel
theorem dX11_solved_35 : decode cX11_solved 35 = .ok (.getfield 99, 3) := by decide +kernel
theorem dX11_solved_38 : decode cX11_solved 38 = .ok (.invokevirtual 313, 3) := by decide +kernel
theorem dX11_solved_41 : decode cX11_solved 41 = .ok (.ireturn, 1) := by decide +kernel
theorem dX11_solved_42 : decode cX11_solved 42 = .ok (.aload_n 0, 1) := by decide +kernel
theorem dX11_solved_43 : decode cX11_solved 43 = .ok (.getfield 23, 3) := by decide +kernel
theorem dX11_solved_46 : decode cX11_solved 46 = .ok (.invokevirtual 316, 3) := by decide +kernel
theorem dX11_solved_49 : decode cX11_solved 49 = .ok (.aload_n 0, 1) := by decide +kernel
theorem dX11_solved_50 : decode cX11_solved 50 = .ok (.getfield 83, 3) := by decide +kernel
theorem dX11_solved_53 : decode cX11_solved 53 = .ok (.aload_n 0, 1) := by decide +kernel
theorem dX11_solved_54 : decode cX11_solved 54 = .ok (.getfield 83, 3) := by decide +kernel
theorem dX11_solved_57 : decode cX11_solved 57 = .ok (.getfield 239, 3) := by decide +kernel
theorem dX11_solved_60 : decode cX11_solved 60 = .ok (.invokevirtual 319, 3) := by decide +kernel
theorem dX11_solved_63 : decode cX11_solved 63 = .ok (.iconst (-1), 1) := by decide +kernel
theorem dX11_solved_64 : decode cX11_solved 64 = .ok (.ixor, 1) := by decide +kernel
theorem dX11_solved_65 : decode cX11_solved 65 = .ok (.iand, 1) := by decide +kernel
theorem dX11_solved_66 : decode cX11_solved 66 = .ok (.istore_n 2, 1) := by decide +kernel
theorem dX11_solved_67 : decode cX11_solved 67 = .ok (.iload_n 1, 1) := by decide +kernel
theorem dX11_solved_68 : decode cX11_solved 68 = .ok (.ifCond .ne 10, 3) := by decide +kernel
theorem dX11_solved_71 : decode cX11_solved 71 = .ok (.iload_n 2, 1) := by decide +kernel
theorem dX11_solved_72 : decode cX11_solved 72 = .ok (.invokestatic 250, 3) := by decide +kernel
theorem dX11_solved_75 : decode cX11_solved 75 = .ok (.goto 4, 3) := by decide +kernel
theorem dX11_solved_78 : decode cX11_solved 78 = .ok (.iload_n 2, 1) := by decide +kernel
theorem dX11_solved_79 : decode cX11_solved 79 = .ok (.ireturn, 1) := by decide +kernel
set_option maxRecDepth 20000 in
theorem ggX11_ahead_X11_noField : GoodIn wsX11_ahead wsX11_noField := goodIn_r _ [9, 3, 10, 81, 82, 83, 84, 85, 86, 87, 88, 89, 90, 91, 92, 93, 94, 95, 96, 97, 98, 99, 100, 101, 102, 103, 104, 105, 106, 107, 108, 109, 110, 111, 112, 113, 114] (by decide +kernel) (by decide +kernel)
set_option maxRecDepth 20000 in
theorem gX11_ahead_X11_noField : GoodIn wsX11_ahead (wsV RX11 156 RX11 yX11_noField wsX11_noField) := goodIn_app (goodIn_of _ (by decide +kernel)) ggX11_ahead_X11_noField
set_option maxRecDepth 20000 in
theorem ggX11_ahead_X7_lookAt : GoodIn wsX11_ahead wsX7_lookAt := goodIn_r _ [15, 16, 17, 18, 19, 20, 21, 22, 23, 24, 25, 26, 27, 28, 29, 30, 31, 32, 33, 34, 35, 36, 37, 38, 39, 40, 41, 42, 43, 44, 45, 46, 14, 47, 48, 49, 115, 116, 117, 118, 119, 120, 121, 100, 101, 102, 103, 104, 105, 106, 107, 108, 109, 110, 111, 112, 113, 114, 122, 123, 124, 125, 126] (by decide +kernel) (by decide +kernel)
set_option maxRecDepth 20000 in
theorem gX11_ahead_X7_lookAt : GoodIn wsX11_ahead (wsV RX11 207 RX7 yX7_lookAt wsX7_lookAt) := goodIn_app (goodIn_of _ (by decide +kernel)) ggX11_ahead_X7_lookAt
set_option maxRecDepth 20000 in
theorem ggX11_ahead_X1_everyone : GoodIn wsX11_ahead wsX1_everyone := goodIn_r _ [53, 54, 100, 101, 102, 103, 104, 105, 106, 107, 108, 109, 110, 111, 112, 113, 114] (by decide +kernel) (by decide +kernel)
set_option maxRecDepth 20000 in
theorem gX11_ahead_X1_everyone : GoodIn wsX11_ahead (wsV RX11 316 RX1 yX1_everyone wsX1_everyone) := goodIn_app (goodIn_of _ (by decide +kernel)) ggX11_ahead_X1_everyone
set_option maxRecDepth 20000 in
theorem ggX11_ahead_X6_unknownBehind : GoodIn wsX11_ahead wsX6_unknownBehind := goodIn_r _ [59, 60, 61, 62, 63, 64, 14, 65, 18, 66, 67, 68, 29, 69, 33, 32, 70, 71, 72, 73, 16, 49, 74, 75, 76, 77, 19, 48, 78, 79, 80, 127, 128, 115, 116, 117, 118, 119, 120, 121, 100, 101, 102, 103, 104, 105, 106, 107, 108, 109, 110, 111, 112, 113, 114] (by decide +kernel) (by decide +kernel)
set_option maxRecDepth 20000 in
theorem gX11_ahead_X6_unknownBehind : GoodIn wsX11_ahead (wsV RX11 322 RX6 yX6_unknownBehind wsX6_unknownBehind) := goodIn_app (goodIn_of _ (by decide +kernel)) ggX11_ahead_X6_unknownBehind
theorem dX11_ahead_0 : decode cX11_ahead 0 = .ok (.aload_n 0, 1) := by decide +kernel
theorem dX11_ahead_1 : decode cX11_ahead 1 = .ok (.invokevirtual 156, 3) := by decide +kernel
theorem dX11_ahead_4 : decode cX11_ahead 4 = .ok (.ifCond .ne 13, 3) := by decide +kernel
theorem dX11_ahead_7 : decode cX11_ahead 7 = .ok (.iload_n 1, 1) := by decide +kernel
theorem dX11_ahead_8 : decode cX11_ahead 8 = .ok (.ifCond .lt 9, 3) := by decide +kernel
theorem dX11_ahead_11 : decode cX11_ahead 11 = .ok (.iload_n 1, 1) := by decide +kernel
theorem dX11_ahead_12 : decode cX11_ahead 12 = .ok (.bipush 20, 2) := by decide +kernel
theorem dX11_ahead_14 : decode cX11_ahead 14 = .ok (.if_icmp .le 5, 3) := by decide +kernel
theorem dX11_ahead_17 : decode cX11_ahead 17 = .ok (.iconst (-1), 1) := by decide +kernel
theorem dX11_ahead_18 : decode cX11_ahead 18 = .ok (.ireturn, 1) := by decide +kernel
theorem dX11_ahead_19 : decode cX11_ahead 19 = .ok (.aload_n 0, 1) := by decide +kernel
theorem dX11_ahead_20 : decode cX11_ahead 20 = .ok (.getfield 83, 3) := by decide +kernel
theorem dX11_ahead_23 : decode cX11_ahead 23 = .ok (.aload_n 0, 1) := by decide +kernel
theorem dX11_ahead_24 : decode cX11_ahead 24 = .ok (.getfield 40, 3) := by decide +kernel
theorem dX11_ahead_27 : decode cX11_ahead 27 = .ok (.invokevirtual 207, 3) := by decide +kernel
theorem dX11_ahead_30 : decode cX11_ahead 30 = .ok (.aload_n 0, 1) := by decide +kernel
theorem dX11_ahead_31 : decode cX11_ahead 31 = .ok (.getfield 23, 3) := by decide +kernel
theorem dX11_ahead_34 : decode cX11_ahead 34 = .ok (.invokevirtual 316, 3) := by decide +kernel
theorem dX11_ahead_37 : decode cX11_ahead 37 = .ok (.aload_n 0, 1) := by decide +kernel
theorem dX11_ahead_38 : decode cX11_ahead 38 = .ok (.getfield 99, 3) := by decide +kernel
theorem dX11_ahead_41 : decode cX11_ahead 41 = .ok (.iload_n 1, 1) := by decide +kernel
theorem dX11_ahead_42 : decode cX11_ahead 42 = .ok (.invokevirtual 322, 3) := by decide +kernel
theorem dX11_ahead_45 : decode cX11_ahead 45 = .ok (.iconst (-1), 1) := by decide +kernel
theorem dX11_ahead_46 : decode cX11_ahead 46 = .ok (.ixor, 1) := by decide +kernel
theorem dX11_ahead_47 : decode cX11_ahead 47 = .ok (.iand, 1) := by decide +kernel
theorem dX11_ahead_48 : decode cX11_ahead 48 = .ok (.ireturn, 1) := by decide +kernel
set_option maxRecDepth 20000 in
theorem ggX11_fewest_X11_noField : GoodIn wsX11_fewest wsX11_noField := goodIn_r _ [8, 9, 10, 88, 89, 90, 91, 92, 93, 94, 95, 96, 97, 98, 99, 100, 101, 102, 103, 104, 105, 106, 107, 108, 109, 110, 111, 112, 113, 114, 115, 116, 117, 118, 119, 120, 121] (by decide +kernel) (by decide +kernel)
set_option maxRecDepth 20000 in
theorem gX11_fewest_X11_noField : GoodIn wsX11_fewest (wsV RX11 156 RX11 yX11_noField wsX11_noField) := goodIn_app (goodIn_of _ (by decide +kernel)) ggX11_fewest_X11_noField
set_option maxRecDepth 20000 in
theorem ggX11_fewest_X7_lookAt : GoodIn wsX11_fewest wsX7_lookAt := goodIn_r _ [15, 16, 17, 18, 19, 20, 21, 22, 23, 24, 25, 26, 27, 28, 29, 30, 31, 32, 33, 34, 35, 36, 37, 38, 39, 40, 41, 42, 43, 44, 45, 46, 14, 47, 48, 49, 122, 123, 124, 125, 126, 127, 128, 107, 108, 109, 110, 111, 112, 113, 114, 115, 116, 117, 118, 119, 120, 121, 129, 130, 131, 132, 133] (by decide +kernel) (by decide +kernel)
set_option maxRecDepth 20000 in
theorem gX11_fewest_X7_lookAt : GoodIn wsX11_fewest (wsV RX11 207 RX7 yX7_lookAt wsX7_lookAt) := goodIn_app (goodIn_of _ (by decide +kernel)) ggX11_fewest_X7_lookAt
set_option maxRecDepth 20000 in
theorem ggX11_fewest_X6_fewestHelpers : GoodIn wsX11_fewest wsX6_fewestHelpers := goodIn_r _ [54, 55, 56, 57, 58, 59, 14, 60, 18, 61, 62, 63, 29, 64, 33, 32, 65, 66, 67, 68, 69, 70, 71, 72, 16, 49, 73, 74, 75, 76, 19, 48, 77, 78, 79, 80, 81, 82, 83, 84, 85, 86, 134, 135, 122, 123, 124, 125, 126, 127, 128, 107, 108, 109, 110, 111, 112, 113, 114, 115, 116, 117, 118, 119, 120, 121] (by decide +kernel) (by decide +kernel)
set_option maxRecDepth 20000 in
theorem gX11_fewest_X6_fewestHelpers : GoodIn wsX11_fewest (wsV RX11 325 RX6 yX6_fewestHelpers wsX6_fewestHelpers) := goodIn_app (goodIn_of _ (by decide +kernel)) ggX11_fewest_X6_fewestHelpers
set_option maxRecDepth 20000 in
theorem ggX11_fewest_J6_bitCount_0f7a4 : GoodIn wsX11_fewest wsJ6_bitCount_0f7a4 := goodIn_r _ [83, 84, 85, 86] (by decide +kernel) (by decide +kernel)
set_option maxRecDepth 20000 in
theorem gX11_fewest_J6_bitCount_0f7a4 : GoodIn wsX11_fewest (va_wsS RX11 250 yJ6_bitCount_0f7a4 wsJ6_bitCount_0f7a4) := goodIn_app (goodIn_of _ (by decide +kernel)) ggX11_fewest_J6_bitCount_0f7a4
theorem dX11_fewest_0 : decode cX11_fewest 0 = .ok (.aload_n 0, 1) := by decide +kernel
theorem dX11_fewest_1 : decode cX11_fewest 1 = .ok (.invokevirtual 156, 3) := by decide +kernel
theorem dX11_fewest_4 : decode cX11_fewest 4 = .ok (.ifCond .ne 21, 3) := by decide +kernel
theorem dX11_fewest_7 : decode cX11_fewest 7 = .ok (.iload_n 1, 1) := by decide +kernel
theorem dX11_fewest_8 : decode cX11_fewest 8 = .ok (.ifCond .lt 17, 3) := by decide +kernel
theorem dX11_fewest_11 : decode cX11_fewest 11 = .ok (.iload_n 1, 1) := by decide +kernel
theorem dX11_fewest_12 : decode cX11_fewest 12 = .ok (.iconst 1, 1) := by decide +kernel
theorem dX11_fewest_13 : decode cX11_fewest 13 = .ok (.if_icmp .gt 12, 3) := by decide +kernel
theorem dX11_fewest_16 : decode cX11_fewest 16 = .ok (.iload_n 2, 1) := by decide +kernel
theorem dX11_fewest_17 : decode cX11_fewest 17 = .ok (.ifCond .lt 8, 3) := by decide +kernel
theorem dX11_fewest_20 : decode cX11_fewest 20 = .ok (.iload_n 2, 1) := by decide +kernel
theorem dX11_fewest_21 : decode cX11_fewest 21 = .ok (.iconst 1, 1) := by decide +kernel
theorem dX11_fewest_22 : decode cX11_fewest 22 = .ok (.if_icmp .le 5, 3) := by decide +kernel
theorem dX11_fewest_25 : decode cX11_fewest 25 = .ok (.iconst (-1), 1) := by decide +kernel
theorem dX11_fewest_26 : decode cX11_fewest 26 = .ok (.ireturn, 1) := by decide +kernel
theorem dX11_fewest_27 : decode cX11_fewest 27 = .ok (.aload_n 0, 1) := by decide +kernel
theorem dX11_fewest_28 : decode cX11_fewest 28 = .ok (.getfield 83, 3) := by decide +kernel
theorem dX11_fewest_31 : decode cX11_fewest 31 = .ok (.aload_n 0, 1) := by decide +kernel
theorem dX11_fewest_32 : decode cX11_fewest 32 = .ok (.getfield 40, 3) := by decide +kernel
theorem dX11_fewest_35 : decode cX11_fewest 35 = .ok (.invokevirtual 207, 3) := by decide +kernel
theorem dX11_fewest_38 : decode cX11_fewest 38 = .ok (.aload_n 0, 1) := by decide +kernel
theorem dX11_fewest_39 : decode cX11_fewest 39 = .ok (.getfield 99, 3) := by decide +kernel
theorem dX11_fewest_42 : decode cX11_fewest 42 = .ok (.invokevirtual 325, 3) := by decide +kernel
theorem dX11_fewest_45 : decode cX11_fewest 45 = .ok (.istore_n 3, 1) := by decide +kernel
theorem dX11_fewest_46 : decode cX11_fewest 46 = .ok (.iload_n 2, 1) := by decide +kernel
theorem dX11_fewest_47 : decode cX11_fewest 47 = .ok (.ifCond .ne 10, 3) := by decide +kernel
theorem dX11_fewest_50 : decode cX11_fewest 50 = .ok (.iload_n 3, 1) := by decide +kernel
theorem dX11_fewest_51 : decode cX11_fewest 51 = .ok (.invokestatic 250, 3) := by decide +kernel
theorem dX11_fewest_54 : decode cX11_fewest 54 = .ok (.goto 4, 3) := by decide +kernel
theorem dX11_fewest_57 : decode cX11_fewest 57 = .ok (.iload_n 3, 1) := by decide +kernel
theorem dX11_fewest_58 : decode cX11_fewest 58 = .ok (.ireturn, 1) := by decide +kernel
set_option maxRecDepth 20000 in
theorem ggX11_tight_X11_noField : GoodIn wsX11_tight wsX11_noField := goodIn_r _ [8, 9, 10, 81, 82, 83, 84, 85, 86, 87, 88, 89, 90, 91, 92, 93, 94, 95, 96, 97, 98, 99, 100, 101, 102, 103, 104, 105, 106, 107, 108, 109, 110, 111, 112, 113, 114] (by decide +kernel) (by decide +kernel)
set_option maxRecDepth 20000 in
theorem gX11_tight_X11_noField : GoodIn wsX11_tight (wsV RX11 156 RX11 yX11_noField wsX11_noField) := goodIn_app (goodIn_of _ (by decide +kernel)) ggX11_tight_X11_noField
set_option maxRecDepth 20000 in
theorem ggX11_tight_X7_lookAt : GoodIn wsX11_tight wsX7_lookAt := goodIn_r _ [15, 16, 17, 18, 19, 20, 21, 22, 23, 24, 25, 26, 27, 28, 29, 30, 31, 32, 33, 34, 35, 36, 37, 38, 39, 40, 41, 42, 43, 44, 45, 46, 14, 47, 48, 49, 115, 116, 117, 118, 119, 120, 121, 100, 101, 102, 103, 104, 105, 106, 107, 108, 109, 110, 111, 112, 113, 114, 122, 123, 124, 125, 126] (by decide +kernel) (by decide +kernel)
set_option maxRecDepth 20000 in
theorem gX11_tight_X7_lookAt : GoodIn wsX11_tight (wsV RX11 207 RX7 yX7_lookAt wsX7_lookAt) := goodIn_app (goodIn_of _ (by decide +kernel)) ggX11_tight_X7_lookAt
set_option maxRecDepth 20000 in
theorem ggX11_tight_X6_greatestCapture : GoodIn wsX11_tight wsX6_greatestCapture := goodIn_r _ [54, 55, 56, 57, 45, 46, 14, 47, 48, 49, 22, 23, 24, 25, 58, 59, 60, 61, 18, 62, 63, 64, 29, 65, 33, 32, 66, 67, 68, 69, 70, 71, 72, 73, 16, 74, 75, 76, 77, 19, 78, 79, 80, 127, 128, 115, 116, 117, 118, 119, 120, 121, 100, 101, 102, 103, 104, 105, 106, 107, 108, 109, 110, 111, 112, 113, 114] (by decide +kernel) (by decide +kernel)
set_option maxRecDepth 20000 in
theorem gX11_tight_X6_greatestCapture : GoodIn wsX11_tight (wsV RX11 328 RX6 yX6_greatestCapture wsX6_greatestCapture) := goodIn_app (goodIn_of _ (by decide +kernel)) ggX11_tight_X6_greatestCapture
theorem dX11_tight_0 : decode cX11_tight 0 = .ok (.aload_n 0, 1) := by decide +kernel
theorem dX11_tight_1 : decode cX11_tight 1 = .ok (.invokevirtual 156, 3) := by decide +kernel
theorem dX11_tight_4 : decode cX11_tight 4 = .ok (.ifCond .eq 5, 3) := by decide +kernel
theorem dX11_tight_7 : decode cX11_tight 7 = .ok (.iconst (-1), 1) := by decide +kernel
theorem dX11_tight_8 : decode cX11_tight 8 = .ok (.ireturn, 1) := by decide +kernel
theorem dX11_tight_9 : decode cX11_tight 9 = .ok (.aload_n 0, 1) := by decide +kernel
theorem dX11_tight_10 : decode cX11_tight 10 = .ok (.getfield 83, 3) := by decide +kernel
theorem dX11_tight_13 : decode cX11_tight 13 = .ok (.aload_n 0, 1) := by decide +kernel
theorem dX11_tight_14 : decode cX11_tight 14 = .ok (.getfield 40, 3) := by decide +kernel
theorem dX11_tight_17 : decode cX11_tight 17 = .ok (.invokevirtual 207, 3) := by decide +kernel
theorem dX11_tight_20 : decode cX11_tight 20 = .ok (.aload_n 0, 1) := by decide +kernel
theorem dX11_tight_21 : decode cX11_tight 21 = .ok (.getfield 99, 3) := by decide +kernel
theorem dX11_tight_24 : decode cX11_tight 24 = .ok (.invokevirtual 328, 3) := by decide +kernel
theorem dX11_tight_27 : decode cX11_tight 27 = .ok (.ireturn, 1) := by decide +kernel
set_option maxRecDepth 20000 in
theorem ggX11_touch_X11_noUser : GoodIn wsX11_touch wsX11_noUser := goodIn_r _ [8, 9, 10, 18, 19, 20, 21, 22, 23, 24, 25, 26, 27, 28, 29, 30, 31, 32, 33, 34, 35, 36, 42, 43, 44, 45, 46, 47, 48, 49, 50, 51, 52, 53, 54, 55, 56] (by decide +kernel) (by decide +kernel)
set_option maxRecDepth 20000 in
theorem gX11_touch_X11_noUser : GoodIn wsX11_touch (wsV RX11 178 RX11 yX11_noUser wsX11_noUser) := goodIn_app (goodIn_of _ (by decide +kernel)) ggX11_touch_X11_noUser
set_option maxRecDepth 20000 in
theorem ggX11_touch_J13_bitCount_95d88 : GoodIn wsX11_touch wsJ13_bitCount_95d88 := goodIn_r _ [14, 15, 16, 17] (by decide +kernel) (by decide +kernel)
set_option maxRecDepth 20000 in
theorem gX11_touch_J13_bitCount_95d88 : GoodIn wsX11_touch (va_wsS RX11 198 yJ13_bitCount_95d88 wsJ13_bitCount_95d88) := goodIn_app (goodIn_of _ (by decide +kernel)) ggX11_touch_J13_bitCount_95d88
theorem dX11_touch_0 : decode cX11_touch 0 = .ok (.aload_n 0, 1) := by decide +kernel
theorem dX11_touch_1 : decode cX11_touch 1 = .ok (.iload_n 1, 1) := by decide +kernel
theorem dX11_touch_2 : decode cX11_touch 2 = .ok (.invokevirtual 178, 3) := by decide +kernel
theorem dX11_touch_5 : decode cX11_touch 5 = .ok (.ifCond .ne 16, 3) := by decide +kernel
theorem dX11_touch_8 : decode cX11_touch 8 = .ok (.aload_n 0, 1) := by decide +kernel
theorem dX11_touch_9 : decode cX11_touch 9 = .ok (.iload_n 2, 1) := by decide +kernel
theorem dX11_touch_10 : decode cX11_touch 10 = .ok (.invokevirtual 178, 3) := by decide +kernel
theorem dX11_touch_13 : decode cX11_touch 13 = .ok (.ifCond .ne 8, 3) := by decide +kernel
theorem dX11_touch_16 : decode cX11_touch 16 = .ok (.iload_n 1, 1) := by decide +kernel
theorem dX11_touch_17 : decode cX11_touch 17 = .ok (.iload_n 2, 1) := by decide +kernel
theorem dX11_touch_18 : decode cX11_touch 18 = .ok (.if_icmp .ne 5, 3) := by decide +kernel
theorem dX11_touch_21 : decode cX11_touch 21 = .ok (.iconst (-1), 1) := by decide +kernel
theorem dX11_touch_22 : decode cX11_touch 22 = .ok (.ireturn, 1) := by decide +kernel
theorem dX11_touch_23 : decode cX11_touch 23 = .ok (.aload_n 0, 1) := by decide +kernel
theorem dX11_touch_24 : decode cX11_touch 24 = .ok (.getfield 40, 3) := by decide +kernel
theorem dX11_touch_27 : decode cX11_touch 27 = .ok (.getfield 204, 3) := by decide +kernel
theorem dX11_touch_30 : decode cX11_touch 30 = .ok (.iload_n 1, 1) := by decide +kernel
theorem dX11_touch_31 : decode cX11_touch 31 = .ok (.iaload, 1) := by decide +kernel
theorem dX11_touch_32 : decode cX11_touch 32 = .ok (.ifCond .ne 15, 3) := by decide +kernel
theorem dX11_touch_35 : decode cX11_touch 35 = .ok (.aload_n 0, 1) := by decide +kernel
theorem dX11_touch_36 : decode cX11_touch 36 = .ok (.getfield 40, 3) := by decide +kernel
theorem dX11_touch_39 : decode cX11_touch 39 = .ok (.getfield 204, 3) := by decide +kernel
theorem dX11_touch_42 : decode cX11_touch 42 = .ok (.iload_n 2, 1) := by decide +kernel
theorem dX11_touch_43 : decode cX11_touch 43 = .ok (.iaload, 1) := by decide +kernel
theorem dX11_touch_44 : decode cX11_touch 44 = .ok (.ifCond .eq 5, 3) := by decide +kernel
theorem dX11_touch_47 : decode cX11_touch 47 = .ok (.iconst (-1), 1) := by decide +kernel
theorem dX11_touch_48 : decode cX11_touch 48 = .ok (.ireturn, 1) := by decide +kernel
theorem dX11_touch_49 : decode cX11_touch 49 = .ok (.aload_n 0, 1) := by decide +kernel
theorem dX11_touch_50 : decode cX11_touch 50 = .ok (.getfield 40, 3) := by decide +kernel
theorem dX11_touch_53 : decode cX11_touch 53 = .ok (.getfield 194, 3) := by decide +kernel
theorem dX11_touch_56 : decode cX11_touch 56 = .ok (.iload_n 1, 1) := by decide +kernel
theorem dX11_touch_57 : decode cX11_touch 57 = .ok (.laload, 1) := by decide +kernel
theorem dX11_touch_58 : decode cX11_touch 58 = .ok (.aload_n 0, 1) := by decide +kernel
theorem dX11_touch_59 : decode cX11_touch 59 = .ok (.getfield 40, 3) := by decide +kernel
theorem dX11_touch_62 : decode cX11_touch 62 = .ok (.getfield 194, 3) := by decide +kernel
theorem dX11_touch_65 : decode cX11_touch 65 = .ok (.iload_n 2, 1) := by decide +kernel
theorem dX11_touch_66 : decode cX11_touch 66 = .ok (.laload, 1) := by decide +kernel
theorem dX11_touch_67 : decode cX11_touch 67 = .ok (.land, 1) := by decide +kernel
theorem dX11_touch_68 : decode cX11_touch 68 = .ok (.invokestatic 198, 3) := by decide +kernel
theorem dX11_touch_71 : decode cX11_touch 71 = .ok (.ireturn, 1) := by decide +kernel
set_option maxRecDepth 20000 in
theorem ggX11_frame_X11_noFrame : GoodIn wsX11_frame wsX11_noFrame := goodIn_r _ [10, 3, 11, 12, 13, 14, 9, 15, 16, 107, 108, 109, 110, 111, 112, 113, 114, 115, 116, 117, 118, 119, 120, 121, 122, 123, 124, 125, 133, 134, 135, 136, 137, 138, 139, 140, 141, 142, 143, 144, 145, 146, 147] (by decide +kernel) (by decide +kernel)
set_option maxRecDepth 20000 in
theorem gX11_frame_X11_noFrame : GoodIn wsX11_frame (wsV RX11 331 RX11 yX11_noFrame wsX11_noFrame) := goodIn_app (goodIn_of _ (by decide +kernel)) ggX11_frame_X11_noFrame
set_option maxRecDepth 20000 in
theorem ggX11_frame_X7_lookAt : GoodIn wsX11_frame wsX7_lookAt := goodIn_r _ [21, 22, 23, 24, 25, 26, 27, 28, 29, 30, 31, 32, 33, 34, 35, 36, 37, 38, 39, 40, 41, 42, 43, 44, 45, 46, 47, 48, 49, 50, 51, 52, 20, 53, 54, 55, 126, 127, 128, 129, 130, 131, 132, 133, 134, 135, 136, 137, 138, 139, 140, 141, 142, 143, 144, 145, 146, 147, 148, 149, 150, 151, 152] (by decide +kernel) (by decide +kernel)
set_option maxRecDepth 20000 in
theorem gX11_frame_X7_lookAt : GoodIn wsX11_frame (wsV RX11 207 RX7 yX7_lookAt wsX7_lookAt) := goodIn_app (goodIn_of _ (by decide +kernel)) ggX11_frame_X7_lookAt
set_option maxRecDepth 20000 in
theorem ggX11_frame_X1_membersOf : GoodIn wsX11_frame wsX1_membersOf := goodIn_r _ [59, 60, 37, 133, 134, 135, 136, 137, 138, 139, 140, 141, 142, 143, 144, 145, 146, 147] (by decide +kernel) (by decide +kernel)
set_option maxRecDepth 20000 in
theorem gX11_frame_X1_membersOf : GoodIn wsX11_frame (wsV RX11 334 RX1 yX1_membersOf wsX1_membersOf) := goodIn_app (goodIn_of _ (by decide +kernel)) ggX11_frame_X1_membersOf
set_option maxRecDepth 20000 in
theorem ggX11_frame_J6_bitCount_0f7a4 : GoodIn wsX11_frame wsJ6_bitCount_0f7a4 := goodIn_r _ [64, 65, 66, 67] (by decide +kernel) (by decide +kernel)
set_option maxRecDepth 20000 in
theorem gX11_frame_J6_bitCount_0f7a4 : GoodIn wsX11_frame (va_wsS RX11 250 yJ6_bitCount_0f7a4 wsJ6_bitCount_0f7a4) := goodIn_app (goodIn_of _ (by decide +kernel)) ggX11_frame_J6_bitCount_0f7a4
set_option maxRecDepth 20000 in
theorem ggX11_frame_X6_copiesIn : GoodIn wsX11_frame wsX6_copiesIn := goodIn_r _ [72, 73, 74, 75, 76, 77, 62, 63, 64, 65, 66, 67, 153, 154, 133, 134, 135, 136, 137, 138, 139, 140, 141, 142, 143, 144, 145, 146, 147, 126, 127, 128, 129, 130, 131, 132] (by decide +kernel) (by decide +kernel)
set_option maxRecDepth 20000 in
theorem gX11_frame_X6_copiesIn : GoodIn wsX11_frame (wsV RX11 337 RX6 yX6_copiesIn wsX6_copiesIn) := goodIn_app (goodIn_of _ (by decide +kernel)) ggX11_frame_X6_copiesIn
set_option maxRecDepth 20000 in
theorem ggX11_frame_X6_clearSlotsIn : GoodIn wsX11_frame wsX6_clearSlotsIn := goodIn_r _ [81, 73, 74, 75, 82, 83, 84, 85, 20, 86, 22, 55, 87, 88, 89, 90, 24, 25, 54, 91, 92, 93, 153, 154, 133, 134, 135, 136, 137, 138, 139, 140, 141, 142, 143, 144, 145, 146, 147, 126, 127, 128, 129, 130, 131, 132] (by decide +kernel) (by decide +kernel)
set_option maxRecDepth 20000 in
theorem gX11_frame_X6_clearSlotsIn : GoodIn wsX11_frame (wsV RX11 340 RX6 yX6_clearSlotsIn wsX6_clearSlotsIn) := goodIn_app (goodIn_of _ (by decide +kernel)) ggX11_frame_X6_clearSlotsIn
set_option maxRecDepth 20000 in
theorem ggX11_frame_X7_stuckOf : GoodIn wsX11_frame wsX7_stuckOf := goodIn_r _ [97, 24, 98, 99, 100, 35, 101, 39, 38, 102, 103, 104, 20, 105, 106, 84, 85, 86, 22, 55, 87, 88, 89, 90, 25, 54, 91, 92, 93, 126, 127, 128, 129, 130, 131, 132, 133, 134, 135, 136, 137, 138, 139, 140, 141, 142, 143, 144, 145, 146, 147] (by decide +kernel) (by decide +kernel)
set_option maxRecDepth 20000 in
theorem gX11_frame_X7_stuckOf : GoodIn wsX11_frame (wsV RX11 319 RX7 yX7_stuckOf wsX7_stuckOf) := goodIn_app (goodIn_of _ (by decide +kernel)) ggX11_frame_X7_stuckOf
theorem dX11_frame_0 : decode cX11_frame 0 = .ok (.aload_n 0, 1) := by decide +kernel
theorem dX11_frame_1 : decode cX11_frame 1 = .ok (.iload_n 1, 1) := by decide +kernel
theorem dX11_frame_2 : decode cX11_frame 2 = .ok (.invokevirtual 331, 3) := by decide +kernel
theorem dX11_frame_5 : decode cX11_frame 5 = .ok (.ifCond .ne 12, 3) := by decide +kernel
theorem dX11_frame_8 : decode cX11_frame 8 = .ok (.iload_n 2, 1) := by decide +kernel
theorem dX11_frame_9 : decode cX11_frame 9 = .ok (.ifCond .lt 8, 3) := by decide +kernel
theorem dX11_frame_12 : decode cX11_frame 12 = .ok (.iload_n 2, 1) := by decide +kernel
theorem dX11_frame_13 : decode cX11_frame 13 = .ok (.iconst 4, 1) := by decide +kernel
theorem dX11_frame_14 : decode cX11_frame 14 = .ok (.if_icmp .le 5, 3) := by decide +kernel
theorem dX11_frame_17 : decode cX11_frame 17 = .ok (.iconst (-1), 1) := by decide +kernel
theorem dX11_frame_18 : decode cX11_frame 18 = .ok (.ireturn, 1) := by decide +kernel
theorem dX11_frame_19 : decode cX11_frame 19 = .ok (.aload_n 0, 1) := by decide +kernel
theorem dX11_frame_20 : decode cX11_frame 20 = .ok (.getfield 83, 3) := by decide +kernel
theorem dX11_frame_23 : decode cX11_frame 23 = .ok (.aload_n 0, 1) := by decide +kernel
theorem dX11_frame_24 : decode cX11_frame 24 = .ok (.getfield 40, 3) := by decide +kernel
theorem dX11_frame_27 : decode cX11_frame 27 = .ok (.invokevirtual 207, 3) := by decide +kernel
theorem dX11_frame_30 : decode cX11_frame 30 = .ok (.aload_n 0, 1) := by decide +kernel
theorem dX11_frame_31 : decode cX11_frame 31 = .ok (.getfield 23, 3) := by decide +kernel
theorem dX11_frame_34 : decode cX11_frame 34 = .ok (.iload_n 1, 1) := by decide +kernel
theorem dX11_frame_35 : decode cX11_frame 35 = .ok (.invokevirtual 334, 3) := by decide +kernel
theorem dX11_frame_38 : decode cX11_frame 38 = .ok (.istore_n 3, 1) := by decide +kernel
theorem dX11_frame_39 : decode cX11_frame 39 = .ok (.iload_n 2, 1) := by decide +kernel
theorem dX11_frame_40 : decode cX11_frame 40 = .ok (.tableswitch 70 0 3 #[32, 37, 52, 61], 32) := by decide +kernel
theorem dX11_frame_72 : decode cX11_frame 72 = .ok (.iload_n 3, 1) := by decide +kernel
theorem dX11_frame_73 : decode cX11_frame 73 = .ok (.invokestatic 250, 3) := by decide +kernel
theorem dX11_frame_76 : decode cX11_frame 76 = .ok (.ireturn, 1) := by decide +kernel
theorem dX11_frame_77 : decode cX11_frame 77 = .ok (.iload_n 3, 1) := by decide +kernel
theorem dX11_frame_78 : decode cX11_frame 78 = .ok (.aload_n 0, 1) := by decide +kernel
theorem dX11_frame_79 : decode cX11_frame 79 = .ok (.getfield 83, 3) := by decide +kernel
theorem dX11_frame_82 : decode cX11_frame 82 = .ok (.getfield 239, 3) := by decide +kernel
theorem dX11_frame_85 : decode cX11_frame 85 = .ok (.iconst (-1), 1) := by decide +kernel
theorem dX11_frame_86 : decode cX11_frame 86 = .ok (.ixor, 1) := by decide +kernel
theorem dX11_frame_87 : decode cX11_frame 87 = .ok (.iand, 1) := by decide +kernel
theorem dX11_frame_88 : decode cX11_frame 88 = .ok (.invokestatic 250, 3) := by decide +kernel
theorem dX11_frame_91 : decode cX11_frame 91 = .ok (.ireturn, 1) := by decide +kernel
theorem dX11_frame_92 : decode cX11_frame 92 = .ok (.aload_n 0, 1) := by decide +kernel
theorem dX11_frame_93 : decode cX11_frame 93 = .ok (.getfield 99, 3) := by decide +kernel
theorem dX11_frame_96 : decode cX11_frame 96 = .ok (.iload_n 1, 1) := by decide +kernel
theorem dX11_frame_97 : decode cX11_frame 97 = .ok (.invokevirtual 337, 3) := by decide +kernel
theorem dX11_frame_100 : decode cX11_frame 100 = .ok (.ireturn, 1) := by decide +kernel
theorem dX11_frame_101 : decode cX11_frame 101 = .ok (.aload_n 0, 1) := by decide +kernel
theorem dX11_frame_102 : decode cX11_frame 102 = .ok (.getfield 99, 3) := by decide +kernel
theorem dX11_frame_105 : decode cX11_frame 105 = .ok (.iload_n 1, 1) := by decide +kernel
theorem dX11_frame_106 : decode cX11_frame 106 = .ok (.invokevirtual 340, 3) := by decide +kernel
theorem dX11_frame_109 : decode cX11_frame 109 = .ok (.ireturn, 1) := by decide +kernel
theorem dX11_frame_110 : decode cX11_frame 110 = .ok (.iload_n 3, 1) := by decide +kernel
theorem dX11_frame_111 : decode cX11_frame 111 = .ok (.aload_n 0, 1) := by decide +kernel
theorem dX11_frame_112 : decode cX11_frame 112 = .ok (.getfield 83, 3) := by decide +kernel
theorem dX11_frame_115 : decode cX11_frame 115 = .ok (.aload_n 0, 1) := by decide +kernel
theorem dX11_frame_116 : decode cX11_frame 116 = .ok (.getfield 83, 3) := by decide +kernel
theorem dX11_frame_119 : decode cX11_frame 119 = .ok (.getfield 239, 3) := by decide +kernel
theorem dX11_frame_122 : decode cX11_frame 122 = .ok (.invokevirtual 319, 3) := by decide +kernel
theorem dX11_frame_125 : decode cX11_frame 125 = .ok (.iand, 1) := by decide +kernel
theorem dX11_frame_126 : decode cX11_frame 126 = .ok (.invokestatic 250, 3) := by decide +kernel
theorem dX11_frame_129 : decode cX11_frame 129 = .ok (.ireturn, 1) := by decide +kernel
set_option maxRecDepth 20000 in
theorem ggX11_stuck_X11_noField : GoodIn wsX11_stuck wsX11_noField := goodIn_r _ [9, 10, 11, 101, 102, 103, 104, 105, 106, 107, 108, 109, 110, 111, 112, 113, 114, 115, 116, 117, 118, 119, 127, 128, 129, 130, 131, 132, 133, 134, 135, 136, 137, 138, 139, 140, 141] (by decide +kernel) (by decide +kernel)
set_option maxRecDepth 20000 in
theorem gX11_stuck_X11_noField : GoodIn wsX11_stuck (wsV RX11 156 RX11 yX11_noField wsX11_noField) := goodIn_app (goodIn_of _ (by decide +kernel)) ggX11_stuck_X11_noField
set_option maxRecDepth 20000 in
theorem ggX11_stuck_X7_lookAt : GoodIn wsX11_stuck wsX7_lookAt := goodIn_r _ [16, 17, 18, 19, 20, 21, 22, 23, 24, 25, 26, 27, 28, 29, 30, 31, 32, 33, 34, 35, 36, 37, 38, 39, 40, 41, 42, 43, 44, 45, 46, 47, 15, 48, 49, 50, 120, 121, 122, 123, 124, 125, 126, 127, 128, 129, 130, 131, 132, 133, 134, 135, 136, 137, 138, 139, 140, 141, 142, 143, 144, 145, 146] (by decide +kernel) (by decide +kernel)
set_option maxRecDepth 20000 in
theorem gX11_stuck_X7_lookAt : GoodIn wsX11_stuck (wsV RX11 207 RX7 yX7_lookAt wsX7_lookAt) := goodIn_app (goodIn_of _ (by decide +kernel)) ggX11_stuck_X7_lookAt
set_option maxRecDepth 20000 in
theorem ggX11_stuck_X6_leastStuckSet : GoodIn wsX11_stuck wsX6_leastStuckSet := goodIn_r _ [55, 56, 57, 58, 59, 60, 61, 62, 63, 64, 65, 66, 67, 54, 68, 69, 70, 71, 15, 72, 19, 73, 74, 75, 30, 76, 34, 33, 77, 78, 79, 80, 17, 50, 81, 82, 83, 84, 20, 49, 85, 86, 87, 147, 148, 120, 121, 122, 123, 124, 125, 126, 127, 128, 129, 130, 131, 132, 133, 134, 135, 136, 137, 138, 139, 140, 141] (by decide +kernel) (by decide +kernel)
set_option maxRecDepth 20000 in
theorem gX11_stuck_X6_leastStuckSet : GoodIn wsX11_stuck (wsV RX11 343 RX6 yX6_leastStuckSet wsX6_leastStuckSet) := goodIn_app (goodIn_of _ (by decide +kernel)) ggX11_stuck_X6_leastStuckSet
set_option maxRecDepth 20000 in
theorem ggX11_stuck_J6_bitCount_0f7a4 : GoodIn wsX11_stuck wsJ6_bitCount_0f7a4 := goodIn_r _ [61, 62, 63, 64] (by decide +kernel) (by decide +kernel)
set_option maxRecDepth 20000 in
theorem gX11_stuck_J6_bitCount_0f7a4 : GoodIn wsX11_stuck (va_wsS RX11 250 yJ6_bitCount_0f7a4 wsJ6_bitCount_0f7a4) := goodIn_app (goodIn_of _ (by decide +kernel)) ggX11_stuck_J6_bitCount_0f7a4
set_option maxRecDepth 20000 in
theorem ggX11_stuck_X6_stuckSets : GoodIn wsX11_stuck wsX6_stuckSets := goodIn_r _ [92, 56, 57, 65, 66, 67, 54, 68, 69, 70, 71, 15, 72, 19, 73, 74, 75, 30, 76, 34, 33, 77, 78, 79, 80, 17, 50, 81, 82, 83, 84, 20, 49, 85, 86, 87, 147, 148, 120, 121, 122, 123, 124, 125, 126, 127, 128, 129, 130, 131, 132, 133, 134, 135, 136, 137, 138, 139, 140, 141] (by decide +kernel) (by decide +kernel)
set_option maxRecDepth 20000 in
theorem gX11_stuck_X6_stuckSets : GoodIn wsX11_stuck (wsV RX11 346 RX6 yX6_stuckSets wsX6_stuckSets) := goodIn_app (goodIn_of _ (by decide +kernel)) ggX11_stuck_X6_stuckSets
set_option maxRecDepth 20000 in
theorem ggX11_stuck_X7_stuckOf : GoodIn wsX11_stuck wsX7_stuckOf := goodIn_r _ [96, 19, 73, 74, 75, 30, 76, 34, 33, 97, 98, 99, 15, 100, 77, 78, 79, 80, 17, 50, 81, 82, 83, 84, 20, 49, 85, 86, 87, 120, 121, 122, 123, 124, 125, 126, 127, 128, 129, 130, 131, 132, 133, 134, 135, 136, 137, 138, 139, 140, 141] (by decide +kernel) (by decide +kernel)
set_option maxRecDepth 20000 in
theorem gX11_stuck_X7_stuckOf : GoodIn wsX11_stuck (wsV RX11 319 RX7 yX7_stuckOf wsX7_stuckOf) := goodIn_app (goodIn_of _ (by decide +kernel)) ggX11_stuck_X7_stuckOf
theorem dX11_stuck_0 : decode cX11_stuck 0 = .ok (.aload_n 0, 1) := by decide +kernel
theorem dX11_stuck_1 : decode cX11_stuck 1 = .ok (.invokevirtual 156, 3) := by decide +kernel
theorem dX11_stuck_4 : decode cX11_stuck 4 = .ok (.ifCond .ne 12, 3) := by decide +kernel
theorem dX11_stuck_7 : decode cX11_stuck 7 = .ok (.iload_n 1, 1) := by decide +kernel
theorem dX11_stuck_8 : decode cX11_stuck 8 = .ok (.ifCond .lt 8, 3) := by decide +kernel
theorem dX11_stuck_11 : decode cX11_stuck 11 = .ok (.iload_n 1, 1) := by decide +kernel
theorem dX11_stuck_12 : decode cX11_stuck 12 = .ok (.iconst 3, 1) := by decide +kernel
theorem dX11_stuck_13 : decode cX11_stuck 13 = .ok (.if_icmp .le 5, 3) := by decide +kernel
theorem dX11_stuck_16 : decode cX11_stuck 16 = .ok (.iconst (-1), 1) := by decide +kernel
theorem dX11_stuck_17 : decode cX11_stuck 17 = .ok (.ireturn, 1) := by decide +kernel
theorem dX11_stuck_18 : decode cX11_stuck 18 = .ok (.aload_n 0, 1) := by decide +kernel
theorem dX11_stuck_19 : decode cX11_stuck 19 = .ok (.getfield 83, 3) := by decide +kernel
theorem dX11_stuck_22 : decode cX11_stuck 22 = .ok (.aload_n 0, 1) := by decide +kernel
theorem dX11_stuck_23 : decode cX11_stuck 23 = .ok (.getfield 40, 3) := by decide +kernel
theorem dX11_stuck_26 : decode cX11_stuck 26 = .ok (.invokevirtual 207, 3) := by decide +kernel
theorem dX11_stuck_29 : decode cX11_stuck 29 = .ok (.iload_n 1, 1) := by decide +kernel
theorem dX11_stuck_30 : decode cX11_stuck 30 = .ok (.tableswitch 53 0 2 #[26, 37, 45], 26) := by decide +kernel
theorem dX11_stuck_56 : decode cX11_stuck 56 = .ok (.aload_n 0, 1) := by decide +kernel
theorem dX11_stuck_57 : decode cX11_stuck 57 = .ok (.getfield 99, 3) := by decide +kernel
theorem dX11_stuck_60 : decode cX11_stuck 60 = .ok (.invokevirtual 343, 3) := by decide +kernel
theorem dX11_stuck_63 : decode cX11_stuck 63 = .ok (.invokestatic 250, 3) := by decide +kernel
theorem dX11_stuck_66 : decode cX11_stuck 66 = .ok (.ireturn, 1) := by decide +kernel
theorem dX11_stuck_67 : decode cX11_stuck 67 = .ok (.aload_n 0, 1) := by decide +kernel
theorem dX11_stuck_68 : decode cX11_stuck 68 = .ok (.getfield 99, 3) := by decide +kernel
theorem dX11_stuck_71 : decode cX11_stuck 71 = .ok (.invokevirtual 343, 3) := by decide +kernel
theorem dX11_stuck_74 : decode cX11_stuck 74 = .ok (.ireturn, 1) := by decide +kernel
theorem dX11_stuck_75 : decode cX11_stuck 75 = .ok (.aload_n 0, 1) := by decide +kernel
theorem dX11_stuck_76 : decode cX11_stuck 76 = .ok (.getfield 99, 3) := by decide +kernel
theorem dX11_stuck_79 : decode cX11_stuck 79 = .ok (.invokevirtual 346, 3) := by decide +kernel
theorem dX11_stuck_82 : decode cX11_stuck 82 = .ok (.ireturn, 1) := by decide +kernel
theorem dX11_stuck_83 : decode cX11_stuck 83 = .ok (.aload_n 0, 1) := by decide +kernel
theorem dX11_stuck_84 : decode cX11_stuck 84 = .ok (.getfield 83, 3) := by decide +kernel
theorem dX11_stuck_87 : decode cX11_stuck 87 = .ok (.aload_n 0, 1) := by decide +kernel
theorem dX11_stuck_88 : decode cX11_stuck 88 = .ok (.getfield 83, 3) := by decide +kernel
theorem dX11_stuck_91 : decode cX11_stuck 91 = .ok (.getfield 239, 3) := by decide +kernel
theorem dX11_stuck_94 : decode cX11_stuck 94 = .ok (.invokevirtual 319, 3) := by decide +kernel
theorem dX11_stuck_97 : decode cX11_stuck 97 = .ok (.ireturn, 1) := by decide +kernel
set_option maxRecDepth 20000 in
theorem ggX11_slid_X11_noField : GoodIn wsX11_slid wsX11_noField := goodIn_r _ [10, 1, 11, 85, 86, 87, 88, 89, 90, 91, 92, 93, 94, 95, 96, 97, 98, 99, 100, 101, 102, 103, 104, 105, 106, 107, 108, 109, 110, 111, 112, 113, 114, 115, 116, 117, 118] (by decide +kernel) (by decide +kernel)
set_option maxRecDepth 20000 in
theorem gX11_slid_X11_noField : GoodIn wsX11_slid (wsV RX11 156 RX11 yX11_noField wsX11_noField) := goodIn_app (goodIn_of _ (by decide +kernel)) ggX11_slid_X11_noField
set_option maxRecDepth 20000 in
theorem ggX11_slid_X7_lookAt : GoodIn wsX11_slid wsX7_lookAt := goodIn_r _ [16, 17, 18, 19, 20, 21, 22, 23, 24, 25, 26, 27, 28, 29, 30, 31, 32, 33, 34, 35, 36, 37, 38, 39, 40, 41, 42, 43, 44, 45, 46, 47, 15, 48, 49, 50, 119, 120, 121, 122, 123, 124, 125, 104, 105, 106, 107, 108, 109, 110, 111, 112, 113, 114, 115, 116, 117, 118, 126, 127, 128, 129, 130] (by decide +kernel) (by decide +kernel)
set_option maxRecDepth 20000 in
theorem gX11_slid_X7_lookAt : GoodIn wsX11_slid (wsV RX11 207 RX7 yX7_lookAt wsX7_lookAt) := goodIn_app (goodIn_of _ (by decide +kernel)) ggX11_slid_X7_lookAt
set_option maxRecDepth 20000 in
theorem ggX11_slid_X1_everyone : GoodIn wsX11_slid wsX1_everyone := goodIn_r _ [54, 55, 104, 105, 106, 107, 108, 109, 110, 111, 112, 113, 114, 115, 116, 117, 118] (by decide +kernel) (by decide +kernel)
set_option maxRecDepth 20000 in
theorem gX11_slid_X1_everyone : GoodIn wsX11_slid (wsV RX11 316 RX1 yX1_everyone wsX1_everyone) := goodIn_app (goodIn_of _ (by decide +kernel)) ggX11_slid_X1_everyone
set_option maxRecDepth 20000 in
theorem ggX11_slid_X6_unknownBehindSlide : GoodIn wsX11_slid wsX6_unknownBehindSlide := goodIn_r _ [60, 61, 62, 63, 64, 65, 66, 67, 59, 68, 69, 70, 71, 72, 15, 73, 74, 75, 76, 77, 17, 50, 78, 79, 80, 81, 19, 20, 49, 82, 83, 84, 131, 132, 119, 120, 121, 122, 123, 124, 125, 104, 105, 106, 107, 108, 109, 110, 111, 112, 113, 114, 115, 116, 117, 118] (by decide +kernel) (by decide +kernel)
set_option maxRecDepth 20000 in
theorem gX11_slid_X6_unknownBehindSlide : GoodIn wsX11_slid (wsV RX11 349 RX6 yX6_unknownBehindSlide wsX6_unknownBehindSlide) := goodIn_app (goodIn_of _ (by decide +kernel)) ggX11_slid_X6_unknownBehindSlide
theorem dX11_slid_0 : decode cX11_slid 0 = .ok (.aload_n 0, 1) := by decide +kernel
theorem dX11_slid_1 : decode cX11_slid 1 = .ok (.invokevirtual 156, 3) := by decide +kernel
theorem dX11_slid_4 : decode cX11_slid 4 = .ok (.ifCond .ne 19, 3) := by decide +kernel
theorem dX11_slid_7 : decode cX11_slid 7 = .ok (.iload_n 1, 1) := by decide +kernel
theorem dX11_slid_8 : decode cX11_slid 8 = .ok (.iconst 1, 1) := by decide +kernel
theorem dX11_slid_9 : decode cX11_slid 9 = .ok (.if_icmp .lt 14, 3) := by decide +kernel
theorem dX11_slid_12 : decode cX11_slid 12 = .ok (.iload_n 1, 1) := by decide +kernel
theorem dX11_slid_13 : decode cX11_slid 13 = .ok (.aload_n 0, 1) := by decide +kernel
theorem dX11_slid_14 : decode cX11_slid 14 = .ok (.getfield 23, 3) := by decide +kernel
theorem dX11_slid_17 : decode cX11_slid 17 = .ok (.getfield 160, 3) := by decide +kernel
theorem dX11_slid_20 : decode cX11_slid 20 = .ok (.if_icmp .le 5, 3) := by decide +kernel
theorem dX11_slid_23 : decode cX11_slid 23 = .ok (.iconst (-1), 1) := by decide +kernel
theorem dX11_slid_24 : decode cX11_slid 24 = .ok (.ireturn, 1) := by decide +kernel
theorem dX11_slid_25 : decode cX11_slid 25 = .ok (.aload_n 0, 1) := by decide +kernel
theorem dX11_slid_26 : decode cX11_slid 26 = .ok (.getfield 83, 3) := by decide +kernel
theorem dX11_slid_29 : decode cX11_slid 29 = .ok (.aload_n 0, 1) := by decide +kernel
theorem dX11_slid_30 : decode cX11_slid 30 = .ok (.getfield 40, 3) := by decide +kernel
theorem dX11_slid_33 : decode cX11_slid 33 = .ok (.invokevirtual 207, 3) := by decide +kernel
theorem dX11_slid_36 : decode cX11_slid 36 = .ok (.aload_n 0, 1) := by decide +kernel
theorem dX11_slid_37 : decode cX11_slid 37 = .ok (.getfield 23, 3) := by decide +kernel
theorem dX11_slid_40 : decode cX11_slid 40 = .ok (.invokevirtual 316, 3) := by decide +kernel
theorem dX11_slid_43 : decode cX11_slid 43 = .ok (.aload_n 0, 1) := by decide +kernel
theorem dX11_slid_44 : decode cX11_slid 44 = .ok (.getfield 99, 3) := by decide +kernel
theorem dX11_slid_47 : decode cX11_slid 47 = .ok (.iload_n 1, 1) := by decide +kernel
theorem dX11_slid_48 : decode cX11_slid 48 = .ok (.invokevirtual 349, 3) := by decide +kernel
theorem dX11_slid_51 : decode cX11_slid 51 = .ok (.iconst (-1), 1) := by decide +kernel
theorem dX11_slid_52 : decode cX11_slid 52 = .ok (.ixor, 1) := by decide +kernel
theorem dX11_slid_53 : decode cX11_slid 53 = .ok (.iand, 1) := by decide +kernel
theorem dX11_slid_54 : decode cX11_slid 54 = .ok (.ireturn, 1) := by decide +kernel
set_option maxRecDepth 20000 in
theorem ggX11_slidAt_X11_noUser : GoodIn wsX11_slidAt wsX11_noUser := goodIn_r _ [11, 1, 12, 81, 82, 83, 84, 85, 86, 87, 88, 89, 90, 91, 92, 93, 94, 95, 96, 97, 98, 99, 100, 101, 102, 103, 104, 105, 106, 107, 108, 109, 110, 111, 112, 113, 114] (by decide +kernel) (by decide +kernel)
set_option maxRecDepth 20000 in
theorem gX11_slidAt_X11_noUser : GoodIn wsX11_slidAt (wsV RX11 178 RX11 yX11_noUser wsX11_noUser) := goodIn_app (goodIn_of _ (by decide +kernel)) ggX11_slidAt_X11_noUser
set_option maxRecDepth 20000 in
theorem ggX11_slidAt_X7_lookAt : GoodIn wsX11_slidAt wsX7_lookAt := goodIn_r _ [17, 18, 19, 20, 21, 22, 23, 24, 25, 26, 27, 28, 29, 30, 31, 32, 33, 34, 35, 36, 37, 38, 39, 40, 41, 42, 43, 44, 45, 46, 47, 48, 16, 49, 50, 51, 120, 121, 122, 123, 124, 125, 126, 100, 101, 102, 103, 104, 105, 106, 107, 108, 109, 110, 111, 112, 113, 114, 115, 116, 117, 118, 119] (by decide +kernel) (by decide +kernel)
set_option maxRecDepth 20000 in
theorem gX11_slidAt_X7_lookAt : GoodIn wsX11_slidAt (wsV RX11 207 RX7 yX7_lookAt wsX7_lookAt) := goodIn_app (goodIn_of _ (by decide +kernel)) ggX11_slidAt_X7_lookAt
set_option maxRecDepth 20000 in
theorem ggX11_slidAt_X6_placeOnSlide : GoodIn wsX11_slidAt wsX6_placeOnSlide := goodIn_r _ [56, 57, 58, 59, 60, 61, 62, 63, 55, 64, 65, 66, 67, 68, 16, 69, 70, 71, 72, 73, 18, 51, 74, 75, 76, 77, 20, 21, 50, 78, 79, 80, 127, 128, 120, 121, 122, 123, 124, 125, 126, 100, 101, 102, 103, 104, 105, 106, 107, 108, 109, 110, 111, 112, 113, 114] (by decide +kernel) (by decide +kernel)
set_option maxRecDepth 20000 in
theorem gX11_slidAt_X6_placeOnSlide : GoodIn wsX11_slidAt (wsV RX11 352 RX6 yX6_placeOnSlide wsX6_placeOnSlide) := goodIn_app (goodIn_of _ (by decide +kernel)) ggX11_slidAt_X6_placeOnSlide
theorem dX11_slidAt_0 : decode cX11_slidAt 0 = .ok (.aload_n 0, 1) := by decide +kernel
theorem dX11_slidAt_1 : decode cX11_slidAt 1 = .ok (.iload_n 1, 1) := by decide +kernel
theorem dX11_slidAt_2 : decode cX11_slidAt 2 = .ok (.invokevirtual 178, 3) := by decide +kernel
theorem dX11_slidAt_5 : decode cX11_slidAt 5 = .ok (.ifCond .ne 19, 3) := by decide +kernel
theorem dX11_slidAt_8 : decode cX11_slidAt 8 = .ok (.iload_n 2, 1) := by decide +kernel
theorem dX11_slidAt_9 : decode cX11_slidAt 9 = .ok (.iconst 1, 1) := by decide +kernel
theorem dX11_slidAt_10 : decode cX11_slidAt 10 = .ok (.if_icmp .lt 14, 3) := by decide +kernel
theorem dX11_slidAt_13 : decode cX11_slidAt 13 = .ok (.iload_n 2, 1) := by decide +kernel
theorem dX11_slidAt_14 : decode cX11_slidAt 14 = .ok (.aload_n 0, 1) := by decide +kernel
theorem dX11_slidAt_15 : decode cX11_slidAt 15 = .ok (.getfield 23, 3) := by decide +kernel
theorem dX11_slidAt_18 : decode cX11_slidAt 18 = .ok (.getfield 160, 3) := by decide +kernel
theorem dX11_slidAt_21 : decode cX11_slidAt 21 = .ok (.if_icmp .le 5, 3) := by decide +kernel
theorem dX11_slidAt_24 : decode cX11_slidAt 24 = .ok (.iconst (-1), 1) := by decide +kernel
theorem dX11_slidAt_25 : decode cX11_slidAt 25 = .ok (.ireturn, 1) := by decide +kernel
theorem dX11_slidAt_26 : decode cX11_slidAt 26 = .ok (.aload_n 0, 1) := by decide +kernel
theorem dX11_slidAt_27 : decode cX11_slidAt 27 = .ok (.getfield 40, 3) := by decide +kernel
theorem dX11_slidAt_30 : decode cX11_slidAt 30 = .ok (.getfield 204, 3) := by decide +kernel
theorem dX11_slidAt_33 : decode cX11_slidAt 33 = .ok (.iload_n 1, 1) := by decide +kernel
theorem dX11_slidAt_34 : decode cX11_slidAt 34 = .ok (.iaload, 1) := by decide +kernel
theorem dX11_slidAt_35 : decode cX11_slidAt 35 = .ok (.ifCond .eq 6, 3) := by decide +kernel
theorem dX11_slidAt_38 : decode cX11_slidAt 38 = .ok (.bipush (-2), 2) := by decide +kernel
theorem dX11_slidAt_40 : decode cX11_slidAt 40 = .ok (.ireturn, 1) := by decide +kernel
theorem dX11_slidAt_41 : decode cX11_slidAt 41 = .ok (.aload_n 0, 1) := by decide +kernel
theorem dX11_slidAt_42 : decode cX11_slidAt 42 = .ok (.getfield 83, 3) := by decide +kernel
theorem dX11_slidAt_45 : decode cX11_slidAt 45 = .ok (.aload_n 0, 1) := by decide +kernel
theorem dX11_slidAt_46 : decode cX11_slidAt 46 = .ok (.getfield 40, 3) := by decide +kernel
theorem dX11_slidAt_49 : decode cX11_slidAt 49 = .ok (.invokevirtual 207, 3) := by decide +kernel
theorem dX11_slidAt_52 : decode cX11_slidAt 52 = .ok (.aload_n 0, 1) := by decide +kernel
theorem dX11_slidAt_53 : decode cX11_slidAt 53 = .ok (.getfield 99, 3) := by decide +kernel
theorem dX11_slidAt_56 : decode cX11_slidAt 56 = .ok (.iload_n 1, 1) := by decide +kernel
theorem dX11_slidAt_57 : decode cX11_slidAt 57 = .ok (.iload_n 2, 1) := by decide +kernel
theorem dX11_slidAt_58 : decode cX11_slidAt 58 = .ok (.invokevirtual 352, 3) := by decide +kernel
theorem dX11_slidAt_61 : decode cX11_slidAt 61 = .ok (.ireturn, 1) := by decide +kernel
set_option maxRecDepth 20000 in
theorem ggX11_blame_X11_noUser : GoodIn wsX11_blame wsX11_noUser := goodIn_r _ [9, 10, 11, 83, 84, 85, 86, 87, 88, 89, 90, 91, 92, 93, 94, 95, 96, 97, 98, 99, 100, 101, 107, 108, 109, 110, 111, 112, 113, 114, 115, 116, 117, 118, 119, 120, 121] (by decide +kernel) (by decide +kernel)
set_option maxRecDepth 20000 in
theorem gX11_blame_X11_noUser : GoodIn wsX11_blame (wsV RX11 178 RX11 yX11_noUser wsX11_noUser) := goodIn_app (goodIn_of _ (by decide +kernel)) ggX11_blame_X11_noUser
set_option maxRecDepth 20000 in
theorem ggX11_blame_X7_lookAt : GoodIn wsX11_blame wsX7_lookAt := goodIn_r _ [16, 17, 18, 19, 20, 21, 22, 23, 24, 25, 26, 27, 28, 29, 30, 31, 32, 33, 34, 35, 36, 37, 38, 39, 40, 41, 42, 43, 44, 45, 46, 47, 15, 48, 49, 50, 122, 123, 124, 125, 126, 127, 128, 107, 108, 109, 110, 111, 112, 113, 114, 115, 116, 117, 118, 119, 120, 121, 102, 103, 104, 105, 106] (by decide +kernel) (by decide +kernel)
set_option maxRecDepth 20000 in
theorem gX11_blame_X7_lookAt : GoodIn wsX11_blame (wsV RX11 207 RX7 yX7_lookAt wsX7_lookAt) := goodIn_app (goodIn_of _ (by decide +kernel)) ggX11_blame_X7_lookAt
set_option maxRecDepth 20000 in
theorem ggX11_blame_X6_helpersOf : GoodIn wsX11_blame wsX6_helpersOf := goodIn_r _ [55, 56, 57, 58, 59, 60, 61, 62, 15, 63, 19, 64, 65, 66, 30, 67, 34, 33, 68, 69, 70, 71, 72, 73, 74, 75, 17, 50, 76, 77, 78, 79, 20, 49, 80, 81, 82, 129, 130, 107, 108, 109, 110, 111, 112, 113, 114, 115, 116, 117, 118, 119, 120, 121, 122, 123, 124, 125, 126, 127, 128] (by decide +kernel) (by decide +kernel)
set_option maxRecDepth 20000 in
theorem gX11_blame_X6_helpersOf : GoodIn wsX11_blame (wsV RX11 355 RX6 yX6_helpersOf wsX6_helpersOf) := goodIn_app (goodIn_of _ (by decide +kernel)) ggX11_blame_X6_helpersOf
theorem dX11_blame_0 : decode cX11_blame 0 = .ok (.aload_n 0, 1) := by decide +kernel
theorem dX11_blame_1 : decode cX11_blame 1 = .ok (.iload_n 1, 1) := by decide +kernel
theorem dX11_blame_2 : decode cX11_blame 2 = .ok (.invokevirtual 178, 3) := by decide +kernel
theorem dX11_blame_5 : decode cX11_blame 5 = .ok (.ifCond .ne 15, 3) := by decide +kernel
theorem dX11_blame_8 : decode cX11_blame 8 = .ok (.aload_n 0, 1) := by decide +kernel
theorem dX11_blame_9 : decode cX11_blame 9 = .ok (.getfield 40, 3) := by decide +kernel
theorem dX11_blame_12 : decode cX11_blame 12 = .ok (.getfield 204, 3) := by decide +kernel
theorem dX11_blame_15 : decode cX11_blame 15 = .ok (.iload_n 1, 1) := by decide +kernel
theorem dX11_blame_16 : decode cX11_blame 16 = .ok (.iaload, 1) := by decide +kernel
theorem dX11_blame_17 : decode cX11_blame 17 = .ok (.ifCond .eq 5, 3) := by decide +kernel
theorem dX11_blame_20 : decode cX11_blame 20 = .ok (.iconst (-1), 1) := by decide +kernel
theorem dX11_blame_21 : decode cX11_blame 21 = .ok (.ireturn, 1) := by decide +kernel
theorem dX11_blame_22 : decode cX11_blame 22 = .ok (.aload_n 0, 1) := by decide +kernel
theorem dX11_blame_23 : decode cX11_blame 23 = .ok (.getfield 83, 3) := by decide +kernel
theorem dX11_blame_26 : decode cX11_blame 26 = .ok (.aload_n 0, 1) := by decide +kernel
theorem dX11_blame_27 : decode cX11_blame 27 = .ok (.getfield 40, 3) := by decide +kernel
theorem dX11_blame_30 : decode cX11_blame 30 = .ok (.invokevirtual 207, 3) := by decide +kernel
theorem dX11_blame_33 : decode cX11_blame 33 = .ok (.aload_n 0, 1) := by decide +kernel
theorem dX11_blame_34 : decode cX11_blame 34 = .ok (.getfield 99, 3) := by decide +kernel
theorem dX11_blame_37 : decode cX11_blame 37 = .ok (.iload_n 1, 1) := by decide +kernel
theorem dX11_blame_38 : decode cX11_blame 38 = .ok (.invokevirtual 355, 3) := by decide +kernel
theorem dX11_blame_41 : decode cX11_blame 41 = .ok (.ireturn, 1) := by decide +kernel
set_option maxRecDepth 20000 in
theorem ggX11_senders_X11_noField : GoodIn wsX11_senders wsX11_noField := goodIn_r _ [9, 1, 2, 17, 18, 19, 20, 21, 22, 23, 24, 25, 26, 27, 28, 29, 30, 31, 32, 33, 34, 35, 36, 37, 38, 39, 40, 41, 42, 43, 44, 45, 46, 47, 48, 49, 50] (by decide +kernel) (by decide +kernel)
set_option maxRecDepth 20000 in
theorem gX11_senders_X11_noField : GoodIn wsX11_senders (wsV RX11 156 RX11 yX11_noField wsX11_noField) := goodIn_app (goodIn_of _ (by decide +kernel)) ggX11_senders_X11_noField
set_option maxRecDepth 20000 in
theorem ggX11_senders_J13_bitCount_95d88 : GoodIn wsX11_senders wsJ13_bitCount_95d88 := goodIn_r _ [13, 14, 15, 16] (by decide +kernel) (by decide +kernel)
set_option maxRecDepth 20000 in
theorem gX11_senders_J13_bitCount_95d88 : GoodIn wsX11_senders (va_wsS RX11 198 yJ13_bitCount_95d88 wsJ13_bitCount_95d88) := goodIn_app (goodIn_of _ (by decide +kernel)) ggX11_senders_J13_bitCount_95d88
theorem dX11_senders_0 : decode cX11_senders 0 = .ok (.aload_n 0, 1) := by decide +kernel
theorem dX11_senders_1 : decode cX11_senders 1 = .ok (.invokevirtual 156, 3) := by decide +kernel
theorem dX11_senders_4 : decode cX11_senders 4 = .ok (.ifCond .ne 13, 3) := by decide +kernel
theorem dX11_senders_7 : decode cX11_senders 7 = .ok (.iload_n 1, 1) := by decide +kernel
theorem dX11_senders_8 : decode cX11_senders 8 = .ok (.ifCond .lt 9, 3) := by decide +kernel
theorem dX11_senders_11 : decode cX11_senders 11 = .ok (.iload_n 1, 1) := by decide +kernel
theorem dX11_senders_12 : decode cX11_senders 12 = .ok (.bipush 24, 2) := by decide +kernel
theorem dX11_senders_14 : decode cX11_senders 14 = .ok (.if_icmp .le 5, 3) := by decide +kernel
theorem dX11_senders_17 : decode cX11_senders 17 = .ok (.iconst (-1), 1) := by decide +kernel
theorem dX11_senders_18 : decode cX11_senders 18 = .ok (.ireturn, 1) := by decide +kernel
theorem dX11_senders_19 : decode cX11_senders 19 = .ok (.iconst 0, 1) := by decide +kernel
theorem dX11_senders_20 : decode cX11_senders 20 = .ok (.istore_n 2, 1) := by decide +kernel
theorem dX11_senders_21 : decode cX11_senders 21 = .ok (.iconst 0, 1) := by decide +kernel
theorem dX11_senders_22 : decode cX11_senders 22 = .ok (.istore_n 3, 1) := by decide +kernel
theorem dX11_senders_23 : decode cX11_senders 23 = .ok (.iload_n 3, 1) := by decide +kernel
theorem dX11_senders_24 : decode cX11_senders 24 = .ok (.aload_n 0, 1) := by decide +kernel
theorem dX11_senders_25 : decode cX11_senders 25 = .ok (.getfield 23, 3) := by decide +kernel
theorem dX11_senders_28 : decode cX11_senders 28 = .ok (.getfield 147, 3) := by decide +kernel
theorem dX11_senders_31 : decode cX11_senders 31 = .ok (.if_icmp .ge 33, 3) := by decide +kernel
theorem dX11_senders_34 : decode cX11_senders 34 = .ok (.iload_n 2, 1) := by decide +kernel
theorem dX11_senders_35 : decode cX11_senders 35 = .ok (.aload_n 0, 1) := by decide +kernel
theorem dX11_senders_36 : decode cX11_senders 36 = .ok (.getfield 40, 3) := by decide +kernel
theorem dX11_senders_39 : decode cX11_senders 39 = .ok (.getfield 194, 3) := by decide +kernel
theorem dX11_senders_42 : decode cX11_senders 42 = .ok (.iload_n 3, 1) := by decide +kernel
theorem dX11_senders_43 : decode cX11_senders 43 = .ok (.laload, 1) := by decide +kernel
theorem dX11_senders_44 : decode cX11_senders 44 = .ok (.invokestatic 198, 3) := by decide +kernel
theorem dX11_senders_47 : decode cX11_senders 47 = .ok (.iload_n 1, 1) := by decide +kernel
theorem dX11_senders_48 : decode cX11_senders 48 = .ok (.if_icmp .ne 7, 3) := by decide +kernel
theorem dX11_senders_51 : decode cX11_senders 51 = .ok (.iconst 1, 1) := by decide +kernel
theorem dX11_senders_52 : decode cX11_senders 52 = .ok (.goto 4, 3) := by decide +kernel
theorem dX11_senders_55 : decode cX11_senders 55 = .ok (.iconst 0, 1) := by decide +kernel
theorem dX11_senders_56 : decode cX11_senders 56 = .ok (.iadd, 1) := by decide +kernel
theorem dX11_senders_57 : decode cX11_senders 57 = .ok (.istore_n 2, 1) := by decide +kernel
theorem dX11_senders_58 : decode cX11_senders 58 = .ok (.iinc 3 1, 3) := by decide +kernel
theorem dX11_senders_61 : decode cX11_senders 61 = .ok (.goto (-38), 3) := by decide +kernel
theorem dX11_senders_64 : decode cX11_senders 64 = .ok (.iload_n 2, 1) := by decide +kernel
theorem dX11_senders_65 : decode cX11_senders 65 = .ok (.ireturn, 1) := by decide +kernel
set_option maxRecDepth 20000 in
theorem ggX11_less_X11_bestHelper : GoodIn wsX11_less wsX11_bestHelper := goodIn_r _ [5, 6, 7, 8, 9, 10, 11, 12, 4, 13, 14, 15, 16, 17, 18, 19, 20, 21, 22, 23, 24, 25, 26, 27, 28, 29, 30, 31, 32, 33, 34, 35, 36, 37, 38, 39, 40, 41, 42, 43, 44, 45, 46, 47, 48, 49, 50, 51, 52, 53, 54, 55, 56, 57, 58, 59, 60, 61, 62, 63, 64, 65, 66, 67, 68, 69, 70, 71, 72, 73, 74, 75, 76, 77, 78, 79, 80, 81, 82, 83, 84, 85, 86, 87, 88, 89, 90, 91, 92, 93, 94, 95, 96, 97, 98, 99, 100, 101, 102, 103, 104, 105, 106, 107, 108, 109, 110, 111, 112, 113, 114, 115, 116, 117, 118, 119, 120, 121, 122, 123, 124, 125, 126, 127, 128, 129, 130, 131, 132, 133, 134, 135, 136, 137, 138, 139, 140, 141, 142, 143, 144, 145, 146] (by decide +kernel) (by decide +kernel)
set_option maxRecDepth 20000 in
theorem gX11_less_X11_bestHelper : GoodIn wsX11_less (wsV RX11 358 RX11 yX11_bestHelper wsX11_bestHelper) := goodIn_app (goodIn_of _ (by decide +kernel)) ggX11_less_X11_bestHelper
theorem dX11_less_0 : decode cX11_less 0 = .ok (.aload_n 0, 1) := by decide +kernel
theorem dX11_less_1 : decode cX11_less 1 = .ok (.iload_n 1, 1) := by decide +kernel
theorem dX11_less_2 : decode cX11_less 2 = .ok (.iconst 0, 1) := by decide +kernel
theorem dX11_less_3 : decode cX11_less 3 = .ok (.invokevirtual 358, 3) := by decide +kernel
theorem dX11_less_6 : decode cX11_less 6 = .ok (.ireturn, 1) := by decide +kernel
set_option maxRecDepth 20000 in
theorem ggX11_key_X11_bestHelper : GoodIn wsX11_key wsX11_bestHelper := goodIn_r _ [5, 6, 7, 8, 9, 10, 11, 12, 4, 13, 14, 15, 16, 17, 18, 19, 20, 21, 22, 23, 24, 25, 26, 27, 28, 29, 30, 31, 32, 33, 34, 35, 36, 37, 38, 39, 40, 41, 42, 43, 44, 45, 46, 47, 48, 49, 50, 51, 52, 53, 54, 55, 56, 57, 58, 59, 60, 61, 62, 63, 64, 65, 66, 67, 68, 69, 70, 71, 72, 73, 74, 75, 76, 77, 78, 79, 80, 81, 82, 83, 84, 85, 86, 87, 88, 89, 90, 91, 92, 93, 94, 95, 96, 97, 98, 99, 100, 101, 102, 103, 104, 105, 106, 107, 108, 109, 110, 111, 112, 113, 114, 115, 116, 117, 118, 119, 120, 121, 122, 123, 124, 125, 126, 127, 128, 129, 130, 131, 132, 133, 134, 135, 136, 137, 138, 139, 140, 141, 142, 143, 144, 145, 146] (by decide +kernel) (by decide +kernel)
set_option maxRecDepth 20000 in
theorem gX11_key_X11_bestHelper : GoodIn wsX11_key (wsV RX11 358 RX11 yX11_bestHelper wsX11_bestHelper) := goodIn_app (goodIn_of _ (by decide +kernel)) ggX11_key_X11_bestHelper
theorem dX11_key_0 : decode cX11_key 0 = .ok (.aload_n 0, 1) := by decide +kernel
theorem dX11_key_1 : decode cX11_key 1 = .ok (.iload_n 1, 1) := by decide +kernel
theorem dX11_key_2 : decode cX11_key 2 = .ok (.iconst 1, 1) := by decide +kernel
theorem dX11_key_3 : decode cX11_key 3 = .ok (.invokevirtual 358, 3) := by decide +kernel
theorem dX11_key_6 : decode cX11_key 6 = .ok (.ireturn, 1) := by decide +kernel
set_option maxRecDepth 20000 in
theorem ggX11_bestHelper_X11_noField : GoodIn wsX11_bestHelper wsX11_noField := goodIn_r _ [9, 10, 11, 95, 96, 97, 98, 99, 100, 101, 102, 103, 104, 105, 106, 107, 108, 109, 110, 111, 112, 113, 114, 115, 116, 117, 118, 119, 120, 121, 122, 123, 124, 125, 126, 127, 128] (by decide +kernel) (by decide +kernel)
set_option maxRecDepth 20000 in
theorem gX11_bestHelper_X11_noField : GoodIn wsX11_bestHelper (wsV RX11 156 RX11 yX11_noField wsX11_noField) := goodIn_app (goodIn_of _ (by decide +kernel)) ggX11_bestHelper_X11_noField
set_option maxRecDepth 20000 in
theorem ggX11_bestHelper_X7_lookAt : GoodIn wsX11_bestHelper wsX7_lookAt := goodIn_r _ [16, 17, 18, 19, 20, 21, 22, 23, 24, 25, 26, 27, 28, 29, 30, 31, 32, 33, 34, 35, 36, 37, 38, 39, 40, 41, 42, 43, 44, 45, 46, 47, 15, 48, 49, 50, 129, 130, 131, 132, 133, 134, 135, 114, 115, 116, 117, 118, 119, 120, 121, 122, 123, 124, 125, 126, 127, 128, 136, 137, 138, 139, 140] (by decide +kernel) (by decide +kernel)
set_option maxRecDepth 20000 in
theorem gX11_bestHelper_X7_lookAt : GoodIn wsX11_bestHelper (wsV RX11 207 RX7 yX7_lookAt wsX7_lookAt) := goodIn_app (goodIn_of _ (by decide +kernel)) ggX11_bestHelper_X7_lookAt
set_option maxRecDepth 20000 in
theorem ggX11_bestHelper_X6_helperOfMost : GoodIn wsX11_bestHelper wsX6_helperOfMost := goodIn_r _ [55, 56, 57, 58, 59, 60, 61, 62, 54, 63, 64, 65, 66, 15, 67, 19, 68, 69, 70, 30, 71, 34, 33, 72, 73, 74, 75, 76, 77, 78, 79, 17, 50, 80, 81, 82, 83, 20, 49, 84, 85, 86, 87, 88, 89, 90, 91, 92, 93, 141, 142, 114, 115, 116, 117, 118, 119, 120, 121, 122, 123, 124, 125, 126, 127, 128, 129, 130, 131, 132, 133, 134, 135] (by decide +kernel) (by decide +kernel)
set_option maxRecDepth 20000 in
theorem gX11_bestHelper_X6_helperOfMost : GoodIn wsX11_bestHelper (wsV RX11 361 RX6 yX6_helperOfMost wsX6_helperOfMost) := goodIn_app (goodIn_of _ (by decide +kernel)) ggX11_bestHelper_X6_helperOfMost
set_option maxRecDepth 20000 in
theorem ggX11_bestHelper_X6_othersKnownWithout : GoodIn wsX11_bestHelper wsX6_othersKnownWithout := goodIn_r _ [63, 56, 57, 58, 59, 64, 65, 66, 15, 67, 19, 68, 69, 70, 30, 71, 34, 33, 72, 73, 74, 75, 76, 77, 78, 79, 17, 50, 80, 81, 82, 83, 20, 49, 84, 85, 86, 87, 88, 89, 90, 91, 92, 93, 141, 142, 114, 115, 116, 117, 118, 119, 120, 121, 122, 123, 124, 125, 126, 127, 128, 129, 130, 131, 132, 133, 134, 135] (by decide +kernel) (by decide +kernel)
set_option maxRecDepth 20000 in
theorem gX11_bestHelper_X6_othersKnownWithout : GoodIn wsX11_bestHelper (wsV RX11 364 RX6 yX6_othersKnownWithout wsX6_othersKnownWithout) := goodIn_app (goodIn_of _ (by decide +kernel)) ggX11_bestHelper_X6_othersKnownWithout
theorem dX11_bestHelper_0 : decode cX11_bestHelper 0 = .ok (.aload_n 0, 1) := by decide +kernel
theorem dX11_bestHelper_1 : decode cX11_bestHelper 1 = .ok (.invokevirtual 156, 3) := by decide +kernel
theorem dX11_bestHelper_4 : decode cX11_bestHelper 4 = .ok (.ifCond .ne 12, 3) := by decide +kernel
theorem dX11_bestHelper_7 : decode cX11_bestHelper 7 = .ok (.iload_n 1, 1) := by decide +kernel
theorem dX11_bestHelper_8 : decode cX11_bestHelper 8 = .ok (.ifCond .lt 8, 3) := by decide +kernel
theorem dX11_bestHelper_11 : decode cX11_bestHelper 11 = .ok (.iload_n 1, 1) := by decide +kernel
theorem dX11_bestHelper_12 : decode cX11_bestHelper 12 = .ok (.iconst 1, 1) := by decide +kernel
theorem dX11_bestHelper_13 : decode cX11_bestHelper 13 = .ok (.if_icmp .le 6, 3) := by decide +kernel
theorem dX11_bestHelper_16 : decode cX11_bestHelper 16 = .ok (.ldc 246, 2) := by decide +kernel
theorem dX11_bestHelper_18 : decode cX11_bestHelper 18 = .ok (.ireturn, 1) := by decide +kernel
theorem dX11_bestHelper_19 : decode cX11_bestHelper 19 = .ok (.aload_n 0, 1) := by decide +kernel
theorem dX11_bestHelper_20 : decode cX11_bestHelper 20 = .ok (.getfield 83, 3) := by decide +kernel
theorem dX11_bestHelper_23 : decode cX11_bestHelper 23 = .ok (.aload_n 0, 1) := by decide +kernel
theorem dX11_bestHelper_24 : decode cX11_bestHelper 24 = .ok (.getfield 40, 3) := by decide +kernel
theorem dX11_bestHelper_27 : decode cX11_bestHelper 27 = .ok (.invokevirtual 207, 3) := by decide +kernel
theorem dX11_bestHelper_30 : decode cX11_bestHelper 30 = .ok (.aload_n 0, 1) := by decide +kernel
theorem dX11_bestHelper_31 : decode cX11_bestHelper 31 = .ok (.getfield 99, 3) := by decide +kernel
theorem dX11_bestHelper_34 : decode cX11_bestHelper 34 = .ok (.invokevirtual 361, 3) := by decide +kernel
theorem dX11_bestHelper_37 : decode cX11_bestHelper 37 = .ok (.istore_n 3, 1) := by decide +kernel
theorem dX11_bestHelper_38 : decode cX11_bestHelper 38 = .ok (.iload_n 1, 1) := by decide +kernel
theorem dX11_bestHelper_39 : decode cX11_bestHelper 39 = .ok (.ifCond .ne 5, 3) := by decide +kernel
theorem dX11_bestHelper_42 : decode cX11_bestHelper 42 = .ok (.iload_n 3, 1) := by decide +kernel
theorem dX11_bestHelper_43 : decode cX11_bestHelper 43 = .ok (.ireturn, 1) := by decide +kernel
theorem dX11_bestHelper_44 : decode cX11_bestHelper 44 = .ok (.iload_n 3, 1) := by decide +kernel
theorem dX11_bestHelper_45 : decode cX11_bestHelper 45 = .ok (.iconst (-1), 1) := by decide +kernel
theorem dX11_bestHelper_46 : decode cX11_bestHelper 46 = .ok (.if_icmp .ne 7, 3) := by decide +kernel
theorem dX11_bestHelper_49 : decode cX11_bestHelper 49 = .ok (.iconst 0, 1) := by decide +kernel
theorem dX11_bestHelper_50 : decode cX11_bestHelper 50 = .ok (.goto 13, 3) := by decide +kernel
theorem dX11_bestHelper_53 : decode cX11_bestHelper 53 = .ok (.aload_n 0, 1) := by decide +kernel
theorem dX11_bestHelper_54 : decode cX11_bestHelper 54 = .ok (.getfield 99, 3) := by decide +kernel
theorem dX11_bestHelper_57 : decode cX11_bestHelper 57 = .ok (.iload_n 3, 1) := by decide +kernel
theorem dX11_bestHelper_58 : decode cX11_bestHelper 58 = .ok (.invokevirtual 364, 3) := by decide +kernel
theorem dX11_bestHelper_61 : decode cX11_bestHelper 61 = .ok (.iload_n 2, 1) := by decide +kernel
theorem dX11_bestHelper_62 : decode cX11_bestHelper 62 = .ok (.iadd, 1) := by decide +kernel
theorem dX11_bestHelper_63 : decode cX11_bestHelper 63 = .ok (.ireturn, 1) := by decide +kernel
set_option maxRecDepth 20000 in
theorem ggX11_more_X11_noUser : GoodIn wsX11_more wsX11_noUser := goodIn_r _ [9, 10, 11, 98, 99, 100, 101, 102, 103, 104, 105, 106, 107, 108, 109, 110, 111, 112, 113, 114, 115, 116, 117, 118, 119, 120, 121, 122, 123, 124, 125, 126, 127, 128, 129, 130, 131] (by decide +kernel) (by decide +kernel)
set_option maxRecDepth 20000 in
theorem gX11_more_X11_noUser : GoodIn wsX11_more (wsV RX11 178 RX11 yX11_noUser wsX11_noUser) := goodIn_app (goodIn_of _ (by decide +kernel)) ggX11_more_X11_noUser
set_option maxRecDepth 20000 in
theorem ggX11_more_X7_lookAt : GoodIn wsX11_more wsX7_lookAt := goodIn_r _ [16, 17, 18, 19, 20, 21, 22, 23, 24, 25, 26, 27, 28, 29, 30, 31, 32, 33, 34, 35, 36, 37, 38, 39, 40, 41, 42, 43, 44, 45, 46, 47, 15, 48, 49, 50, 132, 133, 134, 135, 136, 137, 138, 117, 118, 119, 120, 121, 122, 123, 124, 125, 126, 127, 128, 129, 130, 131, 139, 140, 141, 142, 143] (by decide +kernel) (by decide +kernel)
set_option maxRecDepth 20000 in
theorem gX11_more_X7_lookAt : GoodIn wsX11_more (wsV RX11 207 RX7 yX7_lookAt wsX7_lookAt) := goodIn_app (goodIn_of _ (by decide +kernel)) ggX11_more_X7_lookAt
set_option maxRecDepth 20000 in
theorem ggX11_more_X6_bestNewSlot : GoodIn wsX11_more wsX6_bestNewSlot := goodIn_r _ [55, 56, 57, 58, 59, 36, 37, 30, 38, 32, 34, 60, 28, 29, 31, 33, 61, 62, 63, 54, 64, 65, 66, 67, 68, 69, 15, 70, 19, 71, 72, 73, 74, 75, 76, 77, 78, 79, 80, 81, 82, 17, 50, 83, 84, 85, 86, 20, 49, 87, 88, 89, 90, 91, 92, 93, 94, 95, 96, 144, 145, 132, 133, 134, 135, 136, 137, 138, 117, 118, 119, 120, 121, 122, 123, 124, 125, 126, 127, 128, 129, 130, 131] (by decide +kernel) (by decide +kernel)
set_option maxRecDepth 20000 in
theorem gX11_more_X6_bestNewSlot : GoodIn wsX11_more (wsV RX11 367 RX6 yX6_bestNewSlot wsX6_bestNewSlot) := goodIn_app (goodIn_of _ (by decide +kernel)) ggX11_more_X6_bestNewSlot
set_option maxRecDepth 20000 in
theorem ggX11_more_X6_knownWithCopy : GoodIn wsX11_more wsX6_knownWithCopy := goodIn_r _ [64, 57, 58, 65, 56, 66, 67, 68, 69, 15, 70, 19, 71, 72, 73, 30, 74, 34, 33, 75, 76, 77, 78, 79, 80, 81, 82, 17, 50, 83, 84, 85, 86, 20, 49, 87, 88, 89, 90, 91, 92, 93, 94, 95, 96, 144, 145, 132, 133, 134, 135, 136, 137, 138, 117, 118, 119, 120, 121, 122, 123, 124, 125, 126, 127, 128, 129, 130, 131] (by decide +kernel) (by decide +kernel)
set_option maxRecDepth 20000 in
theorem gX11_more_X6_knownWithCopy : GoodIn wsX11_more (wsV RX11 370 RX6 yX6_knownWithCopy wsX6_knownWithCopy) := goodIn_app (goodIn_of _ (by decide +kernel)) ggX11_more_X6_knownWithCopy
theorem dX11_more_0 : decode cX11_more 0 = .ok (.aload_n 0, 1) := by decide +kernel
theorem dX11_more_1 : decode cX11_more 1 = .ok (.iload_n 1, 1) := by decide +kernel
theorem dX11_more_2 : decode cX11_more 2 = .ok (.invokevirtual 178, 3) := by decide +kernel
theorem dX11_more_5 : decode cX11_more 5 = .ok (.ifCond .ne 12, 3) := by decide +kernel
theorem dX11_more_8 : decode cX11_more 8 = .ok (.iload_n 2, 1) := by decide +kernel
theorem dX11_more_9 : decode cX11_more 9 = .ok (.ifCond .lt 8, 3) := by decide +kernel
theorem dX11_more_12 : decode cX11_more 12 = .ok (.iload_n 2, 1) := by decide +kernel
theorem dX11_more_13 : decode cX11_more 13 = .ok (.iconst 1, 1) := by decide +kernel
theorem dX11_more_14 : decode cX11_more 14 = .ok (.if_icmp .le 6, 3) := by decide +kernel
theorem dX11_more_17 : decode cX11_more 17 = .ok (.ldc 246, 2) := by decide +kernel
theorem dX11_more_19 : decode cX11_more 19 = .ok (.ireturn, 1) := by decide +kernel
theorem dX11_more_20 : decode cX11_more 20 = .ok (.aload_n 0, 1) := by decide +kernel
theorem dX11_more_21 : decode cX11_more 21 = .ok (.getfield 83, 3) := by decide +kernel
theorem dX11_more_24 : decode cX11_more 24 = .ok (.aload_n 0, 1) := by decide +kernel
theorem dX11_more_25 : decode cX11_more 25 = .ok (.getfield 40, 3) := by decide +kernel
theorem dX11_more_28 : decode cX11_more 28 = .ok (.invokevirtual 207, 3) := by decide +kernel
theorem dX11_more_31 : decode cX11_more 31 = .ok (.aload_n 0, 1) := by decide +kernel
theorem dX11_more_32 : decode cX11_more 32 = .ok (.getfield 99, 3) := by decide +kernel
theorem dX11_more_35 : decode cX11_more 35 = .ok (.iload_n 1, 1) := by decide +kernel
theorem dX11_more_36 : decode cX11_more 36 = .ok (.invokevirtual 367, 3) := by decide +kernel
theorem dX11_more_39 : decode cX11_more 39 = .ok (.istore_n 3, 1) := by decide +kernel
theorem dX11_more_40 : decode cX11_more 40 = .ok (.iload_n 2, 1) := by decide +kernel
theorem dX11_more_41 : decode cX11_more 41 = .ok (.ifCond .ne 5, 3) := by decide +kernel
theorem dX11_more_44 : decode cX11_more 44 = .ok (.iload_n 3, 1) := by decide +kernel
theorem dX11_more_45 : decode cX11_more 45 = .ok (.ireturn, 1) := by decide +kernel
theorem dX11_more_46 : decode cX11_more 46 = .ok (.iload_n 3, 1) := by decide +kernel
theorem dX11_more_47 : decode cX11_more 47 = .ok (.iconst (-1), 1) := by decide +kernel
theorem dX11_more_48 : decode cX11_more 48 = .ok (.if_icmp .ne 7, 3) := by decide +kernel
theorem dX11_more_51 : decode cX11_more 51 = .ok (.iconst 0, 1) := by decide +kernel
theorem dX11_more_52 : decode cX11_more 52 = .ok (.goto 12, 3) := by decide +kernel
theorem dX11_more_55 : decode cX11_more 55 = .ok (.aload_n 0, 1) := by decide +kernel
theorem dX11_more_56 : decode cX11_more 56 = .ok (.getfield 99, 3) := by decide +kernel
theorem dX11_more_59 : decode cX11_more 59 = .ok (.iload_n 1, 1) := by decide +kernel
theorem dX11_more_60 : decode cX11_more 60 = .ok (.iload_n 3, 1) := by decide +kernel
theorem dX11_more_61 : decode cX11_more 61 = .ok (.invokevirtual 370, 3) := by decide +kernel
theorem dX11_more_64 : decode cX11_more 64 = .ok (.ireturn, 1) := by decide +kernel
set_option maxRecDepth 20000 in
theorem ggX11_jam_X11_noUser : GoodIn wsX11_jam wsX11_noUser := goodIn_r _ [11, 3, 12, 94, 95, 96, 97, 98, 99, 100, 101, 102, 103, 104, 105, 106, 107, 108, 109, 110, 111, 112, 113, 114, 115, 116, 117, 118, 119, 120, 121, 122, 123, 124, 125, 126, 127] (by decide +kernel) (by decide +kernel)
set_option maxRecDepth 20000 in
theorem gX11_jam_X11_noUser : GoodIn wsX11_jam (wsV RX11 178 RX11 yX11_noUser wsX11_noUser) := goodIn_app (goodIn_of _ (by decide +kernel)) ggX11_jam_X11_noUser
set_option maxRecDepth 20000 in
theorem ggX11_jam_X11_noFrame : GoodIn wsX11_jam wsX11_noFrame := goodIn_r _ [16, 3, 17, 18, 19, 20, 10, 21, 12, 94, 95, 96, 97, 98, 99, 100, 101, 102, 103, 104, 105, 106, 107, 108, 109, 110, 111, 112, 113, 114, 115, 116, 117, 118, 119, 120, 121, 122, 123, 124, 125, 126, 127] (by decide +kernel) (by decide +kernel)
set_option maxRecDepth 20000 in
theorem gX11_jam_X11_noFrame : GoodIn wsX11_jam (wsV RX11 331 RX11 yX11_noFrame wsX11_noFrame) := goodIn_app (goodIn_of _ (by decide +kernel)) ggX11_jam_X11_noFrame
set_option maxRecDepth 20000 in
theorem ggX11_jam_X7_lookAt : GoodIn wsX11_jam wsX7_lookAt := goodIn_r _ [26, 27, 28, 29, 30, 31, 32, 33, 34, 35, 36, 37, 38, 39, 40, 41, 42, 43, 44, 45, 46, 47, 48, 49, 50, 51, 52, 53, 54, 55, 56, 57, 25, 58, 59, 60, 128, 129, 130, 131, 132, 133, 134, 113, 114, 115, 116, 117, 118, 119, 120, 121, 122, 123, 124, 125, 126, 127, 135, 136, 137, 138, 139] (by decide +kernel) (by decide +kernel)
set_option maxRecDepth 20000 in
theorem gX11_jam_X7_lookAt : GoodIn wsX11_jam (wsV RX11 207 RX7 yX7_lookAt wsX7_lookAt) := goodIn_app (goodIn_of _ (by decide +kernel)) ggX11_jam_X7_lookAt
set_option maxRecDepth 20000 in
theorem ggX11_jam_X6_partsKnown : GoodIn wsX11_jam wsX6_partsKnown := goodIn_r _ [65, 66, 67, 68, 69, 64, 70, 71, 72, 73, 74, 75, 76, 40, 77, 44, 43, 78, 79, 80, 25, 81, 82, 83, 84, 85, 27, 60, 86, 87, 88, 89, 29, 30, 59, 90, 91, 92, 93, 62, 63, 140, 141, 128, 129, 130, 131, 132, 133, 134, 113, 114, 115, 116, 117, 118, 119, 120, 121, 122, 123, 124, 125, 126, 127] (by decide +kernel) (by decide +kernel)
set_option maxRecDepth 20000 in
theorem gX11_jam_X6_partsKnown : GoodIn wsX11_jam (wsV RX11 375 RX6 yX6_partsKnown wsX6_partsKnown) := goodIn_app (goodIn_of _ (by decide +kernel)) ggX11_jam_X6_partsKnown
theorem dX11_jam_0 : decode cX11_jam 0 = .ok (.aload_n 0, 1) := by decide +kernel
theorem dX11_jam_1 : decode cX11_jam 1 = .ok (.iload_n 1, 1) := by decide +kernel
theorem dX11_jam_2 : decode cX11_jam 2 = .ok (.invokevirtual 178, 3) := by decide +kernel
theorem dX11_jam_5 : decode cX11_jam 5 = .ok (.ifCond .ne 21, 3) := by decide +kernel
theorem dX11_jam_8 : decode cX11_jam 8 = .ok (.aload_n 0, 1) := by decide +kernel
theorem dX11_jam_9 : decode cX11_jam 9 = .ok (.iload_n 2, 1) := by decide +kernel
theorem dX11_jam_10 : decode cX11_jam 10 = .ok (.invokevirtual 331, 3) := by decide +kernel
theorem dX11_jam_13 : decode cX11_jam 13 = .ok (.ifCond .ne 13, 3) := by decide +kernel
theorem dX11_jam_16 : decode cX11_jam 16 = .ok (.iload_n 3, 1) := by decide +kernel
theorem dX11_jam_17 : decode cX11_jam 17 = .ok (.ifCond .lt 9, 3) := by decide +kernel
theorem dX11_jam_20 : decode cX11_jam 20 = .ok (.iload_n 3, 1) := by decide +kernel
theorem dX11_jam_21 : decode cX11_jam 21 = .ok (.bipush 100, 2) := by decide +kernel
theorem dX11_jam_23 : decode cX11_jam 23 = .ok (.if_icmp .le 5, 3) := by decide +kernel
theorem dX11_jam_26 : decode cX11_jam 26 = .ok (.iconst (-1), 1) := by decide +kernel
theorem dX11_jam_27 : decode cX11_jam 27 = .ok (.ireturn, 1) := by decide +kernel
theorem dX11_jam_28 : decode cX11_jam 28 = .ok (.aload_n 0, 1) := by decide +kernel
theorem dX11_jam_29 : decode cX11_jam 29 = .ok (.getfield 83, 3) := by decide +kernel
theorem dX11_jam_32 : decode cX11_jam 32 = .ok (.aload_n 0, 1) := by decide +kernel
theorem dX11_jam_33 : decode cX11_jam 33 = .ok (.getfield 40, 3) := by decide +kernel
theorem dX11_jam_36 : decode cX11_jam 36 = .ok (.invokevirtual 207, 3) := by decide +kernel
theorem dX11_jam_39 : decode cX11_jam 39 = .ok (.iload_n 2, 1) := by decide +kernel
theorem dX11_jam_40 : decode cX11_jam 40 = .ok (.aload_n 0, 1) := by decide +kernel
theorem dX11_jam_41 : decode cX11_jam 41 = .ok (.getfield 23, 3) := by decide +kernel
theorem dX11_jam_44 : decode cX11_jam 44 = .ok (.getfield 166, 3) := by decide +kernel
theorem dX11_jam_47 : decode cX11_jam 47 = .ok (.imul, 1) := by decide +kernel
theorem dX11_jam_48 : decode cX11_jam 48 = .ok (.istore 4, 2) := by decide +kernel
theorem dX11_jam_50 : decode cX11_jam 50 = .ok (.aload_n 0, 1) := by decide +kernel
theorem dX11_jam_51 : decode cX11_jam 51 = .ok (.getfield 99, 3) := by decide +kernel
theorem dX11_jam_54 : decode cX11_jam 54 = .ok (.iconst 1, 1) := by decide +kernel
theorem dX11_jam_55 : decode cX11_jam 55 = .ok (.iload_n 1, 1) := by decide +kernel
theorem dX11_jam_56 : decode cX11_jam 56 = .ok (.ishl, 1) := by decide +kernel
theorem dX11_jam_57 : decode cX11_jam 57 = .ok (.iload 4, 2) := by decide +kernel
theorem dX11_jam_59 : decode cX11_jam 59 = .ok (.iload 4, 2) := by decide +kernel
theorem dX11_jam_61 : decode cX11_jam 61 = .ok (.aload_n 0, 1) := by decide +kernel
theorem dX11_jam_62 : decode cX11_jam 62 = .ok (.getfield 23, 3) := by decide +kernel
theorem dX11_jam_65 : decode cX11_jam 65 = .ok (.getfield 166, 3) := by decide +kernel
theorem dX11_jam_68 : decode cX11_jam 68 = .ok (.iadd, 1) := by decide +kernel
theorem dX11_jam_69 : decode cX11_jam 69 = .ok (.iload_n 3, 1) := by decide +kernel
theorem dX11_jam_70 : decode cX11_jam 70 = .ok (.lconst 0, 1) := by decide +kernel
theorem dX11_jam_71 : decode cX11_jam 71 = .ok (.ldc2_w 373, 3) := by decide +kernel
theorem dX11_jam_74 : decode cX11_jam 74 = .ok (.invokevirtual 375, 3) := by decide +kernel
theorem dX11_jam_77 : decode cX11_jam 77 = .ok (.l2i, 1) := by decide +kernel
theorem dX11_jam_78 : decode cX11_jam 78 = .ok (.ireturn, 1) := by decide +kernel
set_option maxRecDepth 20000 in
theorem ggX11_share_X11_noDegrees : GoodIn wsX11_share wsX11_noDegrees := goodIn_r _ [7, 8, 9, 41, 42, 43, 44, 45, 46, 47, 48, 49, 50, 51, 52, 53, 54, 55, 56, 57, 58, 59, 60, 61, 62, 63, 64, 65, 66, 67, 68, 69, 70, 71, 72, 73, 74] (by decide +kernel) (by decide +kernel)
set_option maxRecDepth 20000 in
theorem gX11_share_X11_noDegrees : GoodIn wsX11_share (wsV RX11 379 RX11 yX11_noDegrees wsX11_noDegrees) := goodIn_app (goodIn_of _ (by decide +kernel)) ggX11_share_X11_noDegrees
set_option maxRecDepth 20000 in
theorem ggX11_share_X5_shareOf : GoodIn wsX11_share wsX5_shareOf := goodIn_r _ [14, 15, 16, 17, 13, 18, 19, 20, 21, 22, 23, 24, 25, 26, 27, 28, 29, 30, 31, 32, 33, 75, 60, 61, 62, 63, 64, 65, 66, 67, 68, 69, 70, 71, 72, 73, 74] (by decide +kernel) (by decide +kernel)
set_option maxRecDepth 20000 in
theorem gX11_share_X5_shareOf : GoodIn wsX11_share (wsV RX11 384 RX5 yX5_shareOf wsX5_shareOf) := goodIn_app (goodIn_of _ (by decide +kernel)) ggX11_share_X5_shareOf
set_option maxRecDepth 20000 in
theorem ggX11_share_X11_doubleBits : GoodIn wsX11_share wsX11_doubleBits := goodIn_r _ [36, 37, 38, 39, 40] (by decide +kernel) (by decide +kernel)
set_option maxRecDepth 20000 in
theorem gX11_share_X11_doubleBits : GoodIn wsX11_share (va_wsS RX11 388 yX11_doubleBits wsX11_doubleBits) := goodIn_app (goodIn_of _ (by decide +kernel)) ggX11_share_X11_doubleBits
theorem dX11_share_0 : decode cX11_share 0 = .ok (.aload_n 0, 1) := by decide +kernel
theorem dX11_share_1 : decode cX11_share 1 = .ok (.invokevirtual 379, 3) := by decide +kernel
theorem dX11_share_4 : decode cX11_share 4 = .ok (.ifCond .ne 24, 3) := by decide +kernel
theorem dX11_share_7 : decode cX11_share 7 = .ok (.iload_n 1, 1) := by decide +kernel
theorem dX11_share_8 : decode cX11_share 8 = .ok (.iconst 1, 1) := by decide +kernel
theorem dX11_share_9 : decode cX11_share 9 = .ok (.if_icmp .lt 19, 3) := by decide +kernel
theorem dX11_share_12 : decode cX11_share 12 = .ok (.iload_n 1, 1) := by decide +kernel
theorem dX11_share_13 : decode cX11_share 13 = .ok (.bipush 60, 2) := by decide +kernel
theorem dX11_share_15 : decode cX11_share 15 = .ok (.if_icmp .gt 13, 3) := by decide +kernel
theorem dX11_share_18 : decode cX11_share 18 = .ok (.iload_n 2, 1) := by decide +kernel
theorem dX11_share_19 : decode cX11_share 19 = .ok (.ifCond .lt 9, 3) := by decide +kernel
theorem dX11_share_22 : decode cX11_share 22 = .ok (.iload_n 2, 1) := by decide +kernel
theorem dX11_share_23 : decode cX11_share 23 = .ok (.bipush 40, 2) := by decide +kernel
theorem dX11_share_25 : decode cX11_share 25 = .ok (.if_icmp .le 7, 3) := by decide +kernel
theorem dX11_share_28 : decode cX11_share 28 = .ok (.ldc2_w 382, 3) := by decide +kernel
theorem dX11_share_31 : decode cX11_share 31 = .ok (.lreturn, 1) := by decide +kernel
theorem dX11_share_32 : decode cX11_share 32 = .ok (.aload_n 0, 1) := by decide +kernel
theorem dX11_share_33 : decode cX11_share 33 = .ok (.getfield 106, 3) := by decide +kernel
theorem dX11_share_36 : decode cX11_share 36 = .ok (.iload_n 1, 1) := by decide +kernel
theorem dX11_share_37 : decode cX11_share 37 = .ok (.iload_n 2, 1) := by decide +kernel
theorem dX11_share_38 : decode cX11_share 38 = .ok (.invokevirtual 384, 3) := by decide +kernel
theorem dX11_share_41 : decode cX11_share 41 = .ok (.invokestatic 388, 3) := by decide +kernel
theorem dX11_share_44 : decode cX11_share 44 = .ok (.lreturn, 1) := by decide +kernel
set_option maxRecDepth 20000 in
theorem ggX11_limit_X11_noDegrees : GoodIn wsX11_limit wsX11_noDegrees := goodIn_r _ [7, 8, 9, 34, 35, 36, 37, 38, 39, 40, 41, 42, 43, 44, 45, 46, 47, 48, 49, 50, 51, 52, 53, 54, 55, 56, 57, 58, 59, 60, 61, 62, 63, 64, 65, 66, 67] (by decide +kernel) (by decide +kernel)
set_option maxRecDepth 20000 in
theorem gX11_limit_X11_noDegrees : GoodIn wsX11_limit (wsV RX11 379 RX11 yX11_noDegrees wsX11_noDegrees) := goodIn_app (goodIn_of _ (by decide +kernel)) ggX11_limit_X11_noDegrees
set_option maxRecDepth 20000 in
theorem ggX11_limit_X5_shareOf : GoodIn wsX11_limit wsX5_shareOf := goodIn_r _ [14, 15, 16, 17, 13, 18, 19, 20, 21, 22, 23, 24, 25, 26, 27, 28, 29, 30, 31, 32, 33, 68, 53, 54, 55, 56, 57, 58, 59, 60, 61, 62, 63, 64, 65, 66, 67] (by decide +kernel) (by decide +kernel)
set_option maxRecDepth 20000 in
theorem gX11_limit_X5_shareOf : GoodIn wsX11_limit (wsV RX11 384 RX5 yX5_shareOf wsX5_shareOf) := goodIn_app (goodIn_of _ (by decide +kernel)) ggX11_limit_X5_shareOf
theorem dX11_limit_0 : decode cX11_limit 0 = .ok (.aload_n 0, 1) := by decide +kernel
theorem dX11_limit_1 : decode cX11_limit 1 = .ok (.invokevirtual 379, 3) := by decide +kernel
theorem dX11_limit_4 : decode cX11_limit 4 = .ok (.ifCond .eq 5, 3) := by decide +kernel
theorem dX11_limit_7 : decode cX11_limit 7 = .ok (.iconst (-1), 1) := by decide +kernel
theorem dX11_limit_8 : decode cX11_limit 8 = .ok (.ireturn, 1) := by decide +kernel
theorem dX11_limit_9 : decode cX11_limit 9 = .ok (.bipush 60, 2) := by decide +kernel
theorem dX11_limit_11 : decode cX11_limit 11 = .ok (.istore_n 1, 1) := by decide +kernel
theorem dX11_limit_12 : decode cX11_limit 12 = .ok (.iload_n 1, 1) := by decide +kernel
theorem dX11_limit_13 : decode cX11_limit 13 = .ok (.iconst 1, 1) := by decide +kernel
theorem dX11_limit_14 : decode cX11_limit 14 = .ok (.if_icmp .lt 28, 3) := by decide +kernel
theorem dX11_limit_17 : decode cX11_limit 17 = .ok (.aload_n 0, 1) := by decide +kernel
theorem dX11_limit_18 : decode cX11_limit 18 = .ok (.getfield 106, 3) := by decide +kernel
theorem dX11_limit_21 : decode cX11_limit 21 = .ok (.iload_n 1, 1) := by decide +kernel
theorem dX11_limit_22 : decode cX11_limit 22 = .ok (.bipush 40, 2) := by decide +kernel
theorem dX11_limit_24 : decode cX11_limit 24 = .ok (.invokevirtual 384, 3) := by decide +kernel
theorem dX11_limit_27 : decode cX11_limit 27 = .ok (.ldc2_w 392, 3) := by decide +kernel
theorem dX11_limit_30 : decode cX11_limit 30 = .ok (.dcmp .g, 1) := by decide +kernel
theorem dX11_limit_31 : decode cX11_limit 31 = .ok (.ifCond .ge 5, 3) := by decide +kernel
theorem dX11_limit_34 : decode cX11_limit 34 = .ok (.iload_n 1, 1) := by decide +kernel
theorem dX11_limit_35 : decode cX11_limit 35 = .ok (.ireturn, 1) := by decide +kernel
theorem dX11_limit_36 : decode cX11_limit 36 = .ok (.iinc 1 (-1), 3) := by decide +kernel
theorem dX11_limit_39 : decode cX11_limit 39 = .ok (.goto (-27), 3) := by decide +kernel
theorem dX11_limit_42 : decode cX11_limit 42 = .ok (.iconst (-1), 1) := by decide +kernel
theorem dX11_limit_43 : decode cX11_limit 43 = .ok (.ireturn, 1) := by decide +kernel
set_option maxRecDepth 20000 in
theorem ggX11_sample_X11_noDegrees : GoodIn wsX11_sample wsX11_noDegrees := goodIn_r _ [7, 2, 8, 27, 28, 29, 30, 31, 32, 33, 34, 35, 36, 37, 38, 39, 40, 41, 42, 43, 44, 45, 46, 47, 48, 49, 50, 51, 52, 53, 54, 55, 56, 57, 58, 59, 60] (by decide +kernel) (by decide +kernel)
set_option maxRecDepth 20000 in
theorem gX11_sample_X11_noDegrees : GoodIn wsX11_sample (wsV RX11 379 RX11 yX11_noDegrees wsX11_noDegrees) := goodIn_app (goodIn_of _ (by decide +kernel)) ggX11_sample_X11_noDegrees
set_option maxRecDepth 20000 in
theorem ggX11_sample_X0_begin : GoodIn wsX11_sample wsX0_begin := goodIn_r _ [13, 14, 61] (by decide +kernel) (by decide +kernel)
set_option maxRecDepth 20000 in
theorem gX11_sample_X0_begin : GoodIn wsX11_sample (wsV RX11 289 RX0 yX0_begin wsX0_begin) := goodIn_app (goodIn_of _ (by decide +kernel)) ggX11_sample_X0_begin
set_option maxRecDepth 20000 in
theorem ggX11_sample_X0_castDegree : GoodIn wsX11_sample wsX0_castDegree := goodIn_r _ [18, 19, 20, 21, 22, 23, 12, 24, 14, 25, 26, 46, 47, 48, 49, 50, 51, 52, 53, 54, 55, 56, 57, 58, 59, 60, 61] (by decide +kernel) (by decide +kernel)
set_option maxRecDepth 20000 in
theorem gX11_sample_X0_castDegree : GoodIn wsX11_sample (wsV RX11 394 RX0 yX0_castDegree wsX0_castDegree) := goodIn_app (goodIn_of _ (by decide +kernel)) ggX11_sample_X0_castDegree
theorem dX11_sample_0 : decode cX11_sample 0 = .ok (.aload_n 0, 1) := by decide +kernel
theorem dX11_sample_1 : decode cX11_sample 1 = .ok (.invokevirtual 379, 3) := by decide +kernel
theorem dX11_sample_4 : decode cX11_sample 4 = .ok (.ifCond .eq 5, 3) := by decide +kernel
theorem dX11_sample_7 : decode cX11_sample 7 = .ok (.iconst (-1), 1) := by decide +kernel
theorem dX11_sample_8 : decode cX11_sample 8 = .ok (.ireturn, 1) := by decide +kernel
theorem dX11_sample_9 : decode cX11_sample 9 = .ok (.aload_n 0, 1) := by decide +kernel
theorem dX11_sample_10 : decode cX11_sample 10 = .ok (.getfield 74, 3) := by decide +kernel
theorem dX11_sample_13 : decode cX11_sample 13 = .ok (.lload_n 1, 1) := by decide +kernel
theorem dX11_sample_14 : decode cX11_sample 14 = .ok (.invokevirtual 289, 3) := by decide +kernel
theorem dX11_sample_17 : decode cX11_sample 17 = .ok (.aload_n 0, 1) := by decide +kernel
theorem dX11_sample_18 : decode cX11_sample 18 = .ok (.getfield 74, 3) := by decide +kernel
theorem dX11_sample_21 : decode cX11_sample 21 = .ok (.aload_n 0, 1) := by decide +kernel
theorem dX11_sample_22 : decode cX11_sample 22 = .ok (.getfield 23, 3) := by decide +kernel
theorem dX11_sample_25 : decode cX11_sample 25 = .ok (.invokevirtual 394, 3) := by decide +kernel
theorem dX11_sample_28 : decode cX11_sample 28 = .ok (.ireturn, 1) := by decide +kernel
set_option maxRecDepth 20000 in
theorem ggX11_load_X11_noField : GoodIn wsX11_load wsX11_noField := goodIn_r _ [7, 1, 2, 15, 16, 17, 18, 19, 20, 21, 22, 23, 24, 25, 26, 27, 28, 29, 30, 31, 32, 33, 34, 35, 36, 37, 38, 39, 40, 41, 42, 43, 44, 45, 46, 47, 48] (by decide +kernel) (by decide +kernel)
set_option maxRecDepth 20000 in
theorem gX11_load_X11_noField : GoodIn wsX11_load (wsV RX11 156 RX11 yX11_noField wsX11_noField) := goodIn_app (goodIn_of _ (by decide +kernel)) ggX11_load_X11_noField
set_option maxRecDepth 20000 in
theorem ggX11_load_X1_allSlots : GoodIn wsX11_load wsX1_allSlots := goodIn_r _ [12, 13, 14, 34, 35, 36, 37, 38, 39, 40, 41, 42, 43, 44, 45, 46, 47, 48] (by decide +kernel) (by decide +kernel)
set_option maxRecDepth 20000 in
theorem gX11_load_X1_allSlots : GoodIn wsX11_load (wsV RX11 153 RX1 yX1_allSlots wsX1_allSlots) := goodIn_app (goodIn_of _ (by decide +kernel)) ggX11_load_X1_allSlots
theorem dX11_load_0 : decode cX11_load 0 = .ok (.aload_n 0, 1) := by decide +kernel
theorem dX11_load_1 : decode cX11_load 1 = .ok (.invokevirtual 156, 3) := by decide +kernel
theorem dX11_load_4 : decode cX11_load 4 = .ok (.ifCond .ne 14, 3) := by decide +kernel
theorem dX11_load_7 : decode cX11_load 7 = .ok (.iload_n 1, 1) := by decide +kernel
theorem dX11_load_8 : decode cX11_load 8 = .ok (.ifCond .lt 10, 3) := by decide +kernel
theorem dX11_load_11 : decode cX11_load 11 = .ok (.iload_n 1, 1) := by decide +kernel
theorem dX11_load_12 : decode cX11_load 12 = .ok (.sipush 999, 3) := by decide +kernel
theorem dX11_load_15 : decode cX11_load 15 = .ok (.if_icmp .le 5, 3) := by decide +kernel
theorem dX11_load_18 : decode cX11_load 18 = .ok (.iconst (-1), 1) := by decide +kernel
theorem dX11_load_19 : decode cX11_load 19 = .ok (.ireturn, 1) := by decide +kernel
theorem dX11_load_20 : decode cX11_load 20 = .ok (.iload_n 1, 1) := by decide +kernel
theorem dX11_load_21 : decode cX11_load 21 = .ok (.aload_n 0, 1) := by decide +kernel
theorem dX11_load_22 : decode cX11_load 22 = .ok (.getfield 23, 3) := by decide +kernel
theorem dX11_load_25 : decode cX11_load 25 = .ok (.getfield 147, 3) := by decide +kernel
theorem dX11_load_28 : decode cX11_load 28 = .ok (.imul, 1) := by decide +kernel
theorem dX11_load_29 : decode cX11_load 29 = .ok (.aload_n 0, 1) := by decide +kernel
theorem dX11_load_30 : decode cX11_load 30 = .ok (.getfield 23, 3) := by decide +kernel
theorem dX11_load_33 : decode cX11_load 33 = .ok (.invokevirtual 153, 3) := by decide +kernel
theorem dX11_load_36 : decode cX11_load 36 = .ok (.idiv, 1) := by decide +kernel
theorem dX11_load_37 : decode cX11_load 37 = .ok (.ireturn, 1) := by decide +kernel
set_option maxRecDepth 20000 in
theorem ggX11_step_X11_noScript : GoodIn wsX11_step wsX11_noScript := goodIn_r _ [10, 11, 12, 13, 14, 15, 16, 17, 18, 19, 20, 21, 22, 23, 24, 25, 26, 27, 28, 29, 30] (by decide +kernel) (by decide +kernel)
set_option maxRecDepth 20000 in
theorem gX11_step_X11_noScript : GoodIn wsX11_step (wsV RX11 398 RX11 yX11_noScript wsX11_noScript) := goodIn_app (goodIn_of _ (by decide +kernel)) ggX11_step_X11_noScript
theorem dX11_step_0 : decode cX11_step 0 = .ok (.aload_n 0, 1) := by decide +kernel
theorem dX11_step_1 : decode cX11_step 1 = .ok (.iload_n 1, 1) := by decide +kernel
theorem dX11_step_2 : decode cX11_step 2 = .ok (.invokevirtual 398, 3) := by decide +kernel
theorem dX11_step_5 : decode cX11_step 5 = .ok (.ifCond .ne 29, 3) := by decide +kernel
theorem dX11_step_8 : decode cX11_step 8 = .ok (.iload_n 2, 1) := by decide +kernel
theorem dX11_step_9 : decode cX11_step 9 = .ok (.ifCond .lt 25, 3) := by decide +kernel
theorem dX11_step_12 : decode cX11_step 12 = .ok (.iload_n 2, 1) := by decide +kernel
theorem dX11_step_13 : decode cX11_step 13 = .ok (.aload_n 0, 1) := by decide +kernel
theorem dX11_step_14 : decode cX11_step 14 = .ok (.getfield 33, 3) := by decide +kernel
theorem dX11_step_17 : decode cX11_step 17 = .ok (.iload_n 1, 1) := by decide +kernel
theorem dX11_step_18 : decode cX11_step 18 = .ok (.aaload, 1) := by decide +kernel
theorem dX11_step_19 : decode cX11_step 19 = .ok (.getfield 401, 3) := by decide +kernel
theorem dX11_step_22 : decode cX11_step 22 = .ok (.if_icmp .ge 12, 3) := by decide +kernel
theorem dX11_step_25 : decode cX11_step 25 = .ok (.iload_n 3, 1) := by decide +kernel
theorem dX11_step_26 : decode cX11_step 26 = .ok (.ifCond .lt 8, 3) := by decide +kernel
theorem dX11_step_29 : decode cX11_step 29 = .ok (.iload_n 3, 1) := by decide +kernel
theorem dX11_step_30 : decode cX11_step 30 = .ok (.iconst 1, 1) := by decide +kernel
theorem dX11_step_31 : decode cX11_step 31 = .ok (.if_icmp .le 6, 3) := by decide +kernel
theorem dX11_step_34 : decode cX11_step 34 = .ok (.ldc 246, 2) := by decide +kernel
theorem dX11_step_36 : decode cX11_step 36 = .ok (.ireturn, 1) := by decide +kernel
theorem dX11_step_37 : decode cX11_step 37 = .ok (.iload_n 3, 1) := by decide +kernel
theorem dX11_step_38 : decode cX11_step 38 = .ok (.ifCond .ne 17, 3) := by decide +kernel
theorem dX11_step_41 : decode cX11_step 41 = .ok (.aload_n 0, 1) := by decide +kernel
theorem dX11_step_42 : decode cX11_step 42 = .ok (.getfield 33, 3) := by decide +kernel
theorem dX11_step_45 : decode cX11_step 45 = .ok (.iload_n 1, 1) := by decide +kernel
theorem dX11_step_46 : decode cX11_step 46 = .ok (.aaload, 1) := by decide +kernel
theorem dX11_step_47 : decode cX11_step 47 = .ok (.getfield 402, 3) := by decide +kernel
theorem dX11_step_50 : decode cX11_step 50 = .ok (.iload_n 2, 1) := by decide +kernel
theorem dX11_step_51 : decode cX11_step 51 = .ok (.iaload, 1) := by decide +kernel
theorem dX11_step_52 : decode cX11_step 52 = .ok (.goto 14, 3) := by decide +kernel
theorem dX11_step_55 : decode cX11_step 55 = .ok (.aload_n 0, 1) := by decide +kernel
theorem dX11_step_56 : decode cX11_step 56 = .ok (.getfield 33, 3) := by decide +kernel
theorem dX11_step_59 : decode cX11_step 59 = .ok (.iload_n 1, 1) := by decide +kernel
theorem dX11_step_60 : decode cX11_step 60 = .ok (.aaload, 1) := by decide +kernel
theorem dX11_step_61 : decode cX11_step 61 = .ok (.getfield 405, 3) := by decide +kernel
theorem dX11_step_64 : decode cX11_step 64 = .ok (.iload_n 2, 1) := by decide +kernel
theorem dX11_step_65 : decode cX11_step 65 = .ok (.iaload, 1) := by decide +kernel
theorem dX11_step_66 : decode cX11_step 66 = .ok (.ireturn, 1) := by decide +kernel
set_option maxRecDepth 20000 in
theorem ggX11_run_X11_noScript : GoodIn wsX11_run wsX11_noScript := goodIn_r _ [10, 11, 236, 237, 238, 239, 240, 241, 242, 243, 244, 245, 246, 247, 248, 249, 250, 251, 252, 253, 254] (by decide +kernel) (by decide +kernel)
set_option maxRecDepth 20000 in
theorem gX11_run_X11_noScript : GoodIn wsX11_run (wsV RX11 398 RX11 yX11_noScript wsX11_noScript) := goodIn_app (goodIn_of _ (by decide +kernel)) ggX11_run_X11_noScript
set_option maxRecDepth 20000 in
theorem ggX11_run_X11_noField : GoodIn wsX11_run wsX11_noField := goodIn_r _ [15, 16, 17, 236, 237, 238, 239, 240, 241, 242, 243, 244, 245, 246, 247, 248, 249, 250, 251, 252, 253, 254, 258, 259, 260, 261, 262, 263, 264, 265, 266, 267, 268, 269, 270, 271, 272] (by decide +kernel) (by decide +kernel)
set_option maxRecDepth 20000 in
theorem gX11_run_X11_noField : GoodIn wsX11_run (wsV RX11 156 RX11 yX11_noField wsX11_noField) := goodIn_app (goodIn_of _ (by decide +kernel)) ggX11_run_X11_noField
set_option maxRecDepth 20000 in
theorem ggX11_run_X9_takeFrom : GoodIn wsX11_run wsX9_takeFrom := goodIn_r _ [22, 23, 24, 25, 26, 27, 28, 29, 30, 31, 273, 274, 275, 276, 277] (by decide +kernel) (by decide +kernel)
set_option maxRecDepth 20000 in
theorem gX11_run_X9_takeFrom : GoodIn wsX11_run (wsV RX11 408 RX9 yX9_takeFrom wsX9_takeFrom) := goodIn_app (goodIn_of _ (by decide +kernel)) ggX11_run_X9_takeFrom
set_option maxRecDepth 20000 in
theorem ggX11_run_X11_tryOut : GoodIn wsX11_run wsX11_tryOut := goodIn_r _ [35, 5, 36, 37, 2, 38, 39, 40, 41, 42, 43, 44, 45, 46, 47, 48, 49, 50, 51, 52, 53, 54, 55, 56, 57, 58, 59, 60, 61, 62, 63, 64, 65, 66, 67, 68, 69, 70, 71, 72, 73, 74, 75, 76, 77, 78, 79, 80, 81, 82, 83, 21, 84, 28, 85, 86, 87, 88, 89, 90, 91, 92, 93, 94, 95, 96, 97, 98, 99, 100, 101, 102, 103, 104, 105, 106, 107, 108, 109, 110, 111, 112, 113, 114, 115, 116, 117, 118, 119, 120, 121, 122, 123, 124, 125, 126, 127, 128, 129, 130, 131, 132, 133, 134, 135, 136, 137, 138, 139, 140, 141, 142, 143, 144, 145, 146, 147, 148, 149, 150, 151, 152, 153, 154, 155, 156, 157, 158, 159, 160, 161, 162, 163, 164, 165, 166, 167, 168, 169, 170, 171, 172, 173, 174, 175, 176, 177, 178, 179, 23, 180, 181, 182, 183, 184, 185, 186, 187, 188, 189, 190, 191, 192, 193, 194, 195, 196, 197, 198, 199, 200, 201, 202, 203, 204, 205, 206, 207, 208, 209, 210, 211, 212, 213, 214, 215, 216, 217, 218, 219, 220, 221, 222, 223, 224, 225, 226, 227, 228, 229, 230, 231, 232, 233, 234, 255, 256, 257, 236, 237, 238, 239, 240, 241, 242, 243, 244, 245, 246, 247, 248, 249, 250, 251, 252, 253, 254, 278, 279, 280, 258, 259, 260, 261, 262, 263, 264, 265, 266, 267, 268, 269, 270, 271, 272, 281, 282, 283, 284, 285, 286, 287, 273, 274, 275, 276, 277, 288] (by decide +kernel) (by decide +kernel)
set_option maxRecDepth 20000 in
theorem gX11_run_X11_tryOut : GoodIn wsX11_run (wsV RX11 411 RX11 yX11_tryOut wsX11_tryOut) := goodIn_app (goodIn_of _ (by decide +kernel)) ggX11_run_X11_tryOut
set_option maxRecDepth 20000 in
theorem ggX11_run_X9_knownCount : GoodIn wsX11_run wsX9_knownCount := goodIn_r _ [179, 23, 273, 274, 275, 276, 277] (by decide +kernel) (by decide +kernel)
set_option maxRecDepth 20000 in
theorem gX11_run_X9_knownCount : GoodIn wsX11_run (wsV RX11 269 RX9 yX9_knownCount wsX9_knownCount) := goodIn_app (goodIn_of _ (by decide +kernel)) ggX11_run_X9_knownCount
theorem dX11_run_0 : decode cX11_run 0 = .ok (.aload_n 0, 1) := by decide +kernel
theorem dX11_run_1 : decode cX11_run 1 = .ok (.iload_n 1, 1) := by decide +kernel
theorem dX11_run_2 : decode cX11_run 2 = .ok (.invokevirtual 398, 3) := by decide +kernel
theorem dX11_run_5 : decode cX11_run 5 = .ok (.ifCond .ne 19, 3) := by decide +kernel
theorem dX11_run_8 : decode cX11_run 8 = .ok (.aload_n 0, 1) := by decide +kernel
theorem dX11_run_9 : decode cX11_run 9 = .ok (.invokevirtual 156, 3) := by decide +kernel
theorem dX11_run_12 : decode cX11_run 12 = .ok (.ifCond .ne 12, 3) := by decide +kernel
theorem dX11_run_15 : decode cX11_run 15 = .ok (.iload_n 2, 1) := by decide +kernel
theorem dX11_run_16 : decode cX11_run 16 = .ok (.ifCond .lt 8, 3) := by decide +kernel
theorem dX11_run_19 : decode cX11_run 19 = .ok (.iload_n 2, 1) := by decide +kernel
theorem dX11_run_20 : decode cX11_run 20 = .ok (.iconst 1, 1) := by decide +kernel
theorem dX11_run_21 : decode cX11_run 21 = .ok (.if_icmp .le 6, 3) := by decide +kernel
theorem dX11_run_24 : decode cX11_run 24 = .ok (.ldc 246, 2) := by decide +kernel
theorem dX11_run_26 : decode cX11_run 26 = .ok (.ireturn, 1) := by decide +kernel
theorem dX11_run_27 : decode cX11_run 27 = .ok (.aload_n 0, 1) := by decide +kernel
theorem dX11_run_28 : decode cX11_run 28 = .ok (.getfield 44, 3) := by decide +kernel
theorem dX11_run_31 : decode cX11_run 31 = .ok (.aload_n 0, 1) := by decide +kernel
theorem dX11_run_32 : decode cX11_run 32 = .ok (.getfield 40, 3) := by decide +kernel
theorem dX11_run_35 : decode cX11_run 35 = .ok (.invokevirtual 408, 3) := by decide +kernel
theorem dX11_run_38 : decode cX11_run 38 = .ok (.aload_n 0, 1) := by decide +kernel
theorem dX11_run_39 : decode cX11_run 39 = .ok (.aload_n 0, 1) := by decide +kernel
theorem dX11_run_40 : decode cX11_run 40 = .ok (.getfield 33, 3) := by decide +kernel
theorem dX11_run_43 : decode cX11_run 43 = .ok (.iload_n 1, 1) := by decide +kernel
theorem dX11_run_44 : decode cX11_run 44 = .ok (.aaload, 1) := by decide +kernel
theorem dX11_run_45 : decode cX11_run 45 = .ok (.invokevirtual 411, 3) := by decide +kernel
theorem dX11_run_48 : decode cX11_run 48 = .ok (.istore_n 3, 1) := by decide +kernel
theorem dX11_run_49 : decode cX11_run 49 = .ok (.iload_n 2, 1) := by decide +kernel
theorem dX11_run_50 : decode cX11_run 50 = .ok (.iconst 1, 1) := by decide +kernel
theorem dX11_run_51 : decode cX11_run 51 = .ok (.if_icmp .ne 11, 3) := by decide +kernel
theorem dX11_run_54 : decode cX11_run 54 = .ok (.aload_n 0, 1) := by decide +kernel
theorem dX11_run_55 : decode cX11_run 55 = .ok (.getfield 44, 3) := by decide +kernel
theorem dX11_run_58 : decode cX11_run 58 = .ok (.invokevirtual 269, 3) := by decide +kernel
theorem dX11_run_61 : decode cX11_run 61 = .ok (.ireturn, 1) := by decide +kernel
theorem dX11_run_62 : decode cX11_run 62 = .ok (.iload_n 3, 1) := by decide +kernel
theorem dX11_run_63 : decode cX11_run 63 = .ok (.aload_n 0, 1) := by decide +kernel
theorem dX11_run_64 : decode cX11_run 64 = .ok (.getfield 33, 3) := by decide +kernel
theorem dX11_run_67 : decode cX11_run 67 = .ok (.iload_n 1, 1) := by decide +kernel
theorem dX11_run_68 : decode cX11_run 68 = .ok (.aaload, 1) := by decide +kernel
theorem dX11_run_69 : decode cX11_run 69 = .ok (.getfield 401, 3) := by decide +kernel
theorem dX11_run_72 : decode cX11_run 72 = .ok (.if_icmp .ne 7, 3) := by decide +kernel
theorem dX11_run_75 : decode cX11_run 75 = .ok (.iconst (-1), 1) := by decide +kernel
theorem dX11_run_76 : decode cX11_run 76 = .ok (.goto 4, 3) := by decide +kernel
theorem dX11_run_79 : decode cX11_run 79 = .ok (.iload_n 3, 1) := by decide +kernel
theorem dX11_run_80 : decode cX11_run 80 = .ok (.ireturn, 1) := by decide +kernel
set_option maxRecDepth 20000 in
theorem ggX11_tryOut_X8_sortOf : GoodIn wsX11_tryOut wsX8_sortOf := goodIn_r _ [9, 10, 11, 205, 206, 207] (by decide +kernel) (by decide +kernel)
set_option maxRecDepth 20000 in
theorem gX11_tryOut_X8_sortOf : GoodIn wsX11_tryOut (wsV RX11 415 RX8 yX8_sortOf wsX8_sortOf) := goodIn_app (goodIn_of _ (by decide +kernel)) ggX11_tryOut_X8_sortOf
set_option maxRecDepth 20000 in
theorem ggX11_tryOut_X2_refusalOf : GoodIn wsX11_tryOut wsX2_refusalOf := goodIn_r _ [16, 17, 18, 19, 20, 21, 22, 23, 24, 25, 26, 27, 28, 29, 30, 31, 32, 33, 34, 35, 36, 37, 38, 39, 40, 41, 42, 43, 44, 45, 46, 47, 48, 49, 50, 51, 52, 53, 54, 55, 56, 57, 58, 59, 60, 61, 62, 63, 64, 65, 66, 67, 68, 69, 70, 71, 72, 73, 74, 75, 76, 77, 78, 79, 80, 81, 15, 82, 83, 84, 85, 86, 87, 88, 89, 90, 91, 92, 93, 94, 95, 96, 97, 98, 99, 100, 101, 102, 103, 104, 105, 106, 107, 108, 109, 110, 111, 227, 228, 229, 230, 231, 232, 233, 234, 235, 236, 237, 238, 239, 240, 241, 242, 243, 244, 245, 246, 247, 248, 249, 250, 251, 252, 253, 254, 255, 256] (by decide +kernel) (by decide +kernel)
set_option maxRecDepth 20000 in
theorem gX11_tryOut_X2_refusalOf : GoodIn wsX11_tryOut (wsV RX11 254 RX2 yX2_refusalOf wsX2_refusalOf) := goodIn_app (goodIn_of _ (by decide +kernel)) ggX11_tryOut_X2_refusalOf
set_option maxRecDepth 20000 in
theorem ggX11_tryOut_X2_carryOut : GoodIn wsX11_tryOut wsX2_carryOut := goodIn_r _ [115, 111, 116, 117, 118, 15, 119, 19, 17, 20, 88, 21, 22, 23, 24, 25, 26, 27, 28, 29, 30, 31, 32, 33, 34, 35, 36, 37, 38, 39, 40, 41, 42, 43, 44, 45, 46, 47, 48, 49, 50, 51, 52, 53, 54, 55, 56, 57, 58, 59, 103, 65, 66, 67, 120, 69, 70, 71, 72, 73, 74, 75, 76, 77, 78, 121, 122, 123, 124, 125, 126, 127, 128, 129, 130, 131, 132, 133, 134, 135, 136, 137, 138, 139, 140, 18, 141, 142, 143, 144, 145, 146, 147, 148, 149, 150, 151, 152, 153, 154, 155, 156, 157, 83, 158, 159, 160, 161, 89, 162, 163, 164, 165, 166, 167, 168, 169, 170, 171, 104, 105, 172, 173, 174, 175, 176, 177, 178, 179, 180, 181, 182, 183, 184, 185, 186, 187, 188, 189, 190, 191, 192, 193, 194, 195, 196, 197, 198, 199, 200, 201, 202, 203, 204, 252, 253, 254, 255, 256, 227, 228, 229, 245, 246, 247, 248, 249, 250, 251, 230, 231, 232, 233, 234, 235, 236, 237, 238, 239, 240, 241, 242, 243, 244, 257] (by decide +kernel) (by decide +kernel)
set_option maxRecDepth 20000 in
theorem gX11_tryOut_X2_carryOut : GoodIn wsX11_tryOut (wsV RX11 261 RX2 yX2_carryOut wsX2_carryOut) := goodIn_app (goodIn_of _ (by decide +kernel)) ggX11_tryOut_X2_carryOut
theorem dX11_tryOut_0 : decode cX11_tryOut 0 = .ok (.iconst 0, 1) := by decide +kernel
theorem dX11_tryOut_1 : decode cX11_tryOut 1 = .ok (.istore_n 2, 1) := by decide +kernel
theorem dX11_tryOut_2 : decode cX11_tryOut 2 = .ok (.iload_n 2, 1) := by decide +kernel
theorem dX11_tryOut_3 : decode cX11_tryOut 3 = .ok (.aload_n 1, 1) := by decide +kernel
theorem dX11_tryOut_4 : decode cX11_tryOut 4 = .ok (.getfield 401, 3) := by decide +kernel
theorem dX11_tryOut_7 : decode cX11_tryOut 7 = .ok (.if_icmp .ge 63, 3) := by decide +kernel
theorem dX11_tryOut_10 : decode cX11_tryOut 10 = .ok (.aload_n 1, 1) := by decide +kernel
theorem dX11_tryOut_11 : decode cX11_tryOut 11 = .ok (.iload_n 2, 1) := by decide +kernel
theorem dX11_tryOut_12 : decode cX11_tryOut 12 = .ok (.invokevirtual 415, 3) := by decide +kernel
theorem dX11_tryOut_15 : decode cX11_tryOut 15 = .ok (.istore_n 3, 1) := by decide +kernel
theorem dX11_tryOut_16 : decode cX11_tryOut 16 = .ok (.aload_n 1, 1) := by decide +kernel
theorem dX11_tryOut_17 : decode cX11_tryOut 17 = .ok (.getfield 405, 3) := by decide +kernel
theorem dX11_tryOut_20 : decode cX11_tryOut 20 = .ok (.iload_n 2, 1) := by decide +kernel
theorem dX11_tryOut_21 : decode cX11_tryOut 21 = .ok (.iaload, 1) := by decide +kernel
theorem dX11_tryOut_22 : decode cX11_tryOut 22 = .ok (.istore 4, 2) := by decide +kernel
theorem dX11_tryOut_24 : decode cX11_tryOut 24 = .ok (.aload_n 0, 1) := by decide +kernel
theorem dX11_tryOut_25 : decode cX11_tryOut 25 = .ok (.getfield 92, 3) := by decide +kernel
theorem dX11_tryOut_28 : decode cX11_tryOut 28 = .ok (.aload_n 0, 1) := by decide +kernel
theorem dX11_tryOut_29 : decode cX11_tryOut 29 = .ok (.getfield 44, 3) := by decide +kernel
theorem dX11_tryOut_32 : decode cX11_tryOut 32 = .ok (.iload_n 3, 1) := by decide +kernel
theorem dX11_tryOut_33 : decode cX11_tryOut 33 = .ok (.iload 4, 2) := by decide +kernel
theorem dX11_tryOut_35 : decode cX11_tryOut 35 = .ok (.iconst (-1), 1) := by decide +kernel
theorem dX11_tryOut_36 : decode cX11_tryOut 36 = .ok (.invokevirtual 254, 3) := by decide +kernel
theorem dX11_tryOut_39 : decode cX11_tryOut 39 = .ok (.iconst (-1), 1) := by decide +kernel
theorem dX11_tryOut_40 : decode cX11_tryOut 40 = .ok (.if_icmp .eq 5, 3) := by decide +kernel
theorem dX11_tryOut_43 : decode cX11_tryOut 43 = .ok (.iload_n 2, 1) := by decide +kernel
theorem dX11_tryOut_44 : decode cX11_tryOut 44 = .ok (.ireturn, 1) := by decide +kernel
theorem dX11_tryOut_45 : decode cX11_tryOut 45 = .ok (.aload_n 0, 1) := by decide +kernel
theorem dX11_tryOut_46 : decode cX11_tryOut 46 = .ok (.getfield 92, 3) := by decide +kernel
theorem dX11_tryOut_49 : decode cX11_tryOut 49 = .ok (.aload_n 0, 1) := by decide +kernel
theorem dX11_tryOut_50 : decode cX11_tryOut 50 = .ok (.getfield 44, 3) := by decide +kernel
theorem dX11_tryOut_53 : decode cX11_tryOut 53 = .ok (.iload_n 3, 1) := by decide +kernel
theorem dX11_tryOut_54 : decode cX11_tryOut 54 = .ok (.iload 4, 2) := by decide +kernel
theorem dX11_tryOut_56 : decode cX11_tryOut 56 = .ok (.iconst (-1), 1) := by decide +kernel
theorem dX11_tryOut_57 : decode cX11_tryOut 57 = .ok (.iload 4, 2) := by decide +kernel
theorem dX11_tryOut_59 : decode cX11_tryOut 59 = .ok (.i2l, 1) := by decide +kernel
theorem dX11_tryOut_60 : decode cX11_tryOut 60 = .ok (.invokevirtual 261, 3) := by decide +kernel
theorem dX11_tryOut_63 : decode cX11_tryOut 63 = .ok (.pop, 1) := by decide +kernel
theorem dX11_tryOut_64 : decode cX11_tryOut 64 = .ok (.iinc 2 1, 3) := by decide +kernel
theorem dX11_tryOut_67 : decode cX11_tryOut 67 = .ok (.goto (-65), 3) := by decide +kernel
theorem dX11_tryOut_70 : decode cX11_tryOut 70 = .ok (.aload_n 1, 1) := by decide +kernel
theorem dX11_tryOut_71 : decode cX11_tryOut 71 = .ok (.getfield 401, 3) := by decide +kernel
theorem dX11_tryOut_74 : decode cX11_tryOut 74 = .ok (.ireturn, 1) := by decide +kernel
set_option maxRecDepth 20000 in
theorem ggX11_perform_X11_noScript : GoodIn wsX11_perform wsX11_noScript := goodIn_r _ [8, 9, 257, 258, 259, 260, 261, 262, 263, 264, 265, 266, 267, 268, 269, 270, 271, 272, 273, 274, 275] (by decide +kernel) (by decide +kernel)
set_option maxRecDepth 20000 in
theorem gX11_perform_X11_noScript : GoodIn wsX11_perform (wsV RX11 398 RX11 yX11_noScript wsX11_noScript) := goodIn_app (goodIn_of _ (by decide +kernel)) ggX11_perform_X11_noScript
set_option maxRecDepth 20000 in
theorem ggX11_perform_X11_noField : GoodIn wsX11_perform wsX11_noField := goodIn_r _ [13, 14, 15, 257, 258, 259, 260, 261, 262, 263, 264, 265, 266, 267, 268, 269, 270, 271, 272, 273, 274, 275, 279, 280, 281, 282, 283, 284, 285, 286, 287, 288, 289, 290, 291, 292, 293] (by decide +kernel) (by decide +kernel)
set_option maxRecDepth 20000 in
theorem gX11_perform_X11_noField : GoodIn wsX11_perform (wsV RX11 156 RX11 yX11_noField wsX11_noField) := goodIn_app (goodIn_of _ (by decide +kernel)) ggX11_perform_X11_noField
set_option maxRecDepth 20000 in
theorem ggX11_perform_X8_sortOf : GoodIn wsX11_perform wsX8_sortOf := goodIn_r _ [20, 21, 22, 276, 277, 278] (by decide +kernel) (by decide +kernel)
set_option maxRecDepth 20000 in
theorem gX11_perform_X8_sortOf : GoodIn wsX11_perform (wsV RX11 415 RX8 yX8_sortOf wsX8_sortOf) := goodIn_app (goodIn_of _ (by decide +kernel)) ggX11_perform_X8_sortOf
set_option maxRecDepth 20000 in
theorem ggX11_perform_X11_attempt : GoodIn wsX11_perform wsX11_attempt := goodIn_r _ [26, 27, 28, 29, 30, 31, 32, 33, 34, 35, 36, 37, 38, 39, 40, 41, 42, 43, 44, 45, 46, 47, 48, 49, 50, 51, 52, 53, 54, 55, 56, 57, 58, 59, 60, 61, 62, 63, 64, 65, 66, 67, 68, 69, 70, 71, 72, 73, 74, 75, 76, 77, 78, 79, 80, 81, 82, 83, 84, 85, 86, 87, 88, 89, 90, 91, 92, 93, 94, 95, 96, 97, 98, 99, 100, 101, 102, 103, 104, 105, 106, 107, 108, 109, 110, 111, 112, 113, 114, 115, 116, 117, 118, 119, 120, 121, 122, 123, 124, 125, 126, 127, 128, 129, 130, 131, 132, 133, 134, 135, 136, 137, 138, 139, 140, 141, 142, 143, 144, 145, 146, 147, 148, 149, 150, 151, 152, 153, 154, 155, 156, 157, 158, 159, 160, 161, 162, 163, 164, 165, 166, 167, 168, 169, 170, 171, 172, 173, 174, 175, 176, 177, 178, 179, 180, 181, 182, 183, 184, 185, 186, 187, 188, 189, 190, 191, 192, 193, 194, 195, 196, 197, 198, 199, 200, 201, 202, 203, 204, 205, 206, 207, 208, 209, 210, 211, 212, 213, 214, 215, 216, 217, 218, 219, 220, 221, 222, 223, 224, 225, 226, 227, 228, 229, 230, 231, 232, 233, 234, 235, 236, 237, 238, 239, 240, 241, 242, 243, 244, 245, 246, 247, 248, 249, 250, 251, 252, 253, 254, 255, 256, 257, 258, 259, 260, 261, 262, 263, 264, 265, 266, 267, 268, 269, 270, 271, 272, 273, 274, 275, 294, 295, 296, 279, 280, 281, 282, 283, 284, 285, 286, 287, 288, 289, 290, 291, 292, 293, 297, 298, 299, 300, 301, 302, 303, 304, 305, 306, 307, 308, 309, 310, 311, 312, 313, 314, 315, 316] (by decide +kernel) (by decide +kernel)
set_option maxRecDepth 20000 in
theorem gX11_perform_X11_attempt : GoodIn wsX11_perform (wsV RX11 276 RX11 yX11_attempt wsX11_attempt) := goodIn_app (goodIn_of _ (by decide +kernel)) ggX11_perform_X11_attempt
theorem dX11_perform_0 : decode cX11_perform 0 = .ok (.aload_n 0, 1) := by decide +kernel
theorem dX11_perform_1 : decode cX11_perform 1 = .ok (.iload_n 1, 1) := by decide +kernel
theorem dX11_perform_2 : decode cX11_perform 2 = .ok (.invokevirtual 398, 3) := by decide +kernel
theorem dX11_perform_5 : decode cX11_perform 5 = .ok (.ifCond .ne 10, 3) := by decide +kernel
theorem dX11_perform_8 : decode cX11_perform 8 = .ok (.aload_n 0, 1) := by decide +kernel
theorem dX11_perform_9 : decode cX11_perform 9 = .ok (.invokevirtual 156, 3) := by decide +kernel
theorem dX11_perform_12 : decode cX11_perform 12 = .ok (.ifCond .eq 5, 3) := by decide +kernel
theorem dX11_perform_15 : decode cX11_perform 15 = .ok (.iconst (-1), 1) := by decide +kernel
theorem dX11_perform_16 : decode cX11_perform 16 = .ok (.ireturn, 1) := by decide +kernel
theorem dX11_perform_17 : decode cX11_perform 17 = .ok (.aload_n 0, 1) := by decide +kernel
theorem dX11_perform_18 : decode cX11_perform 18 = .ok (.getfield 33, 3) := by decide +kernel
theorem dX11_perform_21 : decode cX11_perform 21 = .ok (.iload_n 1, 1) := by decide +kernel
theorem dX11_perform_22 : decode cX11_perform 22 = .ok (.aaload, 1) := by decide +kernel
theorem dX11_perform_23 : decode cX11_perform 23 = .ok (.astore_n 2, 1) := by decide +kernel
theorem dX11_perform_24 : decode cX11_perform 24 = .ok (.iconst 0, 1) := by decide +kernel
theorem dX11_perform_25 : decode cX11_perform 25 = .ok (.istore_n 3, 1) := by decide +kernel
theorem dX11_perform_26 : decode cX11_perform 26 = .ok (.iload_n 3, 1) := by decide +kernel
theorem dX11_perform_27 : decode cX11_perform 27 = .ok (.aload_n 2, 1) := by decide +kernel
theorem dX11_perform_28 : decode cX11_perform 28 = .ok (.getfield 401, 3) := by decide +kernel
theorem dX11_perform_31 : decode cX11_perform 31 = .ok (.if_icmp .ge 37, 3) := by decide +kernel
theorem dX11_perform_34 : decode cX11_perform 34 = .ok (.aload_n 0, 1) := by decide +kernel
theorem dX11_perform_35 : decode cX11_perform 35 = .ok (.aload_n 2, 1) := by decide +kernel
theorem dX11_perform_36 : decode cX11_perform 36 = .ok (.iload_n 3, 1) := by decide +kernel
theorem dX11_perform_37 : decode cX11_perform 37 = .ok (.invokevirtual 415, 3) := by decide +kernel
theorem dX11_perform_40 : decode cX11_perform 40 = .ok (.aload_n 2, 1) := by decide +kernel
theorem dX11_perform_41 : decode cX11_perform 41 = .ok (.getfield 405, 3) := by decide +kernel
theorem dX11_perform_44 : decode cX11_perform 44 = .ok (.iload_n 3, 1) := by decide +kernel
theorem dX11_perform_45 : decode cX11_perform 45 = .ok (.iaload, 1) := by decide +kernel
theorem dX11_perform_46 : decode cX11_perform 46 = .ok (.iconst (-1), 1) := by decide +kernel
theorem dX11_perform_47 : decode cX11_perform 47 = .ok (.aload_n 2, 1) := by decide +kernel
theorem dX11_perform_48 : decode cX11_perform 48 = .ok (.getfield 405, 3) := by decide +kernel
theorem dX11_perform_51 : decode cX11_perform 51 = .ok (.iload_n 3, 1) := by decide +kernel
theorem dX11_perform_52 : decode cX11_perform 52 = .ok (.iaload, 1) := by decide +kernel
theorem dX11_perform_53 : decode cX11_perform 53 = .ok (.i2l, 1) := by decide +kernel
theorem dX11_perform_54 : decode cX11_perform 54 = .ok (.invokevirtual 276, 3) := by decide +kernel
theorem dX11_perform_57 : decode cX11_perform 57 = .ok (.ifCond .ge 5, 3) := by decide +kernel
theorem dX11_perform_60 : decode cX11_perform 60 = .ok (.iload_n 3, 1) := by decide +kernel
theorem dX11_perform_61 : decode cX11_perform 61 = .ok (.ireturn, 1) := by decide +kernel
theorem dX11_perform_62 : decode cX11_perform 62 = .ok (.iinc 3 1, 3) := by decide +kernel
theorem dX11_perform_65 : decode cX11_perform 65 = .ok (.goto (-39), 3) := by decide +kernel
theorem dX11_perform_68 : decode cX11_perform 68 = .ok (.aload_n 2, 1) := by decide +kernel
theorem dX11_perform_69 : decode cX11_perform 69 = .ok (.getfield 401, 3) := by decide +kernel
theorem dX11_perform_72 : decode cX11_perform 72 = .ok (.ireturn, 1) := by decide +kernel
set_option maxRecDepth 20000 in
theorem ggX11_most_X11_noField : GoodIn wsX11_most wsX11_noField := goodIn_r _ [12, 4, 13, 113, 114, 115, 116, 117, 118, 119, 120, 121, 122, 123, 124, 125, 126, 127, 128, 129, 130, 131, 144, 145, 146, 147, 148, 149, 150, 151, 152, 153, 154, 155, 156, 157, 158] (by decide +kernel) (by decide +kernel)
set_option maxRecDepth 20000 in
theorem gX11_most_X11_noField : GoodIn wsX11_most (wsV RX11 156 RX11 yX11_noField wsX11_noField) := goodIn_app (goodIn_of _ (by decide +kernel)) ggX11_most_X11_noField
set_option maxRecDepth 20000 in
theorem ggX11_most_X7_lookAt : GoodIn wsX11_most wsX7_lookAt := goodIn_r _ [18, 19, 20, 21, 22, 23, 24, 25, 26, 27, 28, 29, 30, 31, 32, 33, 34, 35, 36, 37, 38, 39, 40, 41, 42, 43, 44, 45, 46, 47, 48, 49, 17, 50, 51, 52, 132, 133, 134, 135, 136, 137, 138, 144, 145, 146, 147, 148, 149, 150, 151, 152, 153, 154, 155, 156, 157, 158, 139, 140, 141, 142, 143] (by decide +kernel) (by decide +kernel)
set_option maxRecDepth 20000 in
theorem gX11_most_X7_lookAt : GoodIn wsX11_most (wsV RX11 207 RX7 yX7_lookAt wsX7_lookAt) := goodIn_app (goodIn_of _ (by decide +kernel)) ggX11_most_X7_lookAt
set_option maxRecDepth 20000 in
theorem ggX11_most_X1_everyone : GoodIn wsX11_most wsX1_everyone := goodIn_r _ [56, 57, 144, 145, 146, 147, 148, 149, 150, 151, 152, 153, 154, 155, 156, 157, 158] (by decide +kernel) (by decide +kernel)
set_option maxRecDepth 20000 in
theorem gX11_most_X1_everyone : GoodIn wsX11_most (wsV RX11 316 RX1 yX1_everyone wsX1_everyone) := goodIn_app (goodIn_of _ (by decide +kernel)) ggX11_most_X1_everyone
set_option maxRecDepth 20000 in
theorem ggX11_most_X6_fullestSlot : GoodIn wsX11_most wsX6_fullestSlot := goodIn_r _ [62, 63, 64, 65, 66, 67, 68, 32, 69, 36, 35, 70, 71, 72, 73, 74, 75, 76, 159, 160, 132, 133, 134, 135, 136, 137, 138, 144, 145, 146, 147, 148, 149, 150, 151, 152, 153, 154, 155, 156, 157, 158] (by decide +kernel) (by decide +kernel)
set_option maxRecDepth 20000 in
theorem gX11_most_X6_fullestSlot : GoodIn wsX11_most (wsV RX11 418 RX6 yX6_fullestSlot wsX6_fullestSlot) := goodIn_app (goodIn_of _ (by decide +kernel)) ggX11_most_X6_fullestSlot
set_option maxRecDepth 20000 in
theorem ggX11_most_X6_busiestUser : GoodIn wsX11_most wsX6_busiestUser := goodIn_r _ [80, 63, 81, 82, 83, 84, 85, 86, 87, 88, 89, 159, 160, 144, 145, 146, 147, 148, 149, 150, 151, 152, 153, 154, 155, 156, 157, 158, 139, 140, 141, 142, 143] (by decide +kernel) (by decide +kernel)
set_option maxRecDepth 20000 in
theorem gX11_most_X6_busiestUser : GoodIn wsX11_most (wsV RX11 421 RX6 yX6_busiestUser wsX6_busiestUser) := goodIn_app (goodIn_of _ (by decide +kernel)) ggX11_most_X6_busiestUser
set_option maxRecDepth 20000 in
theorem ggX11_most_X6_strongestUser : GoodIn wsX11_most wsX6_strongestUser := goodIn_r _ [93, 63, 81, 64, 94, 159, 160, 144, 145, 146, 147, 148, 149, 150, 151, 152, 153, 154, 155, 156, 157, 158, 132, 133, 134, 135, 136, 137, 138] (by decide +kernel) (by decide +kernel)
set_option maxRecDepth 20000 in
theorem gX11_most_X6_strongestUser : GoodIn wsX11_most (wsV RX11 425 RX6 yX6_strongestUser wsX6_strongestUser) := goodIn_app (goodIn_of _ (by decide +kernel)) ggX11_most_X6_strongestUser
set_option maxRecDepth 20000 in
theorem ggX11_most_X6_slotsWith : GoodIn wsX11_most wsX6_slotsWith := goodIn_r _ [98, 63, 64, 65, 66, 67, 68, 32, 69, 36, 35, 70, 71, 72, 73, 74, 75, 76, 159, 160, 132, 133, 134, 135, 136, 137, 138, 144, 145, 146, 147, 148, 149, 150, 151, 152, 153, 154, 155, 156, 157, 158] (by decide +kernel) (by decide +kernel)
set_option maxRecDepth 20000 in
theorem gX11_most_X6_slotsWith : GoodIn wsX11_most (wsV RX11 428 RX6 yX6_slotsWith wsX6_slotsWith) := goodIn_app (goodIn_of _ (by decide +kernel)) ggX11_most_X6_slotsWith
set_option maxRecDepth 20000 in
theorem ggX11_most_X9_copyCount : GoodIn wsX11_most wsX9_copyCount := goodIn_r _ [102, 46, 103, 84, 85, 86, 87, 88, 89, 139, 140, 141, 142, 143] (by decide +kernel) (by decide +kernel)
set_option maxRecDepth 20000 in
theorem gX11_most_X9_copyCount : GoodIn wsX11_most (wsV RX11 431 RX9 yX9_copyCount wsX9_copyCount) := goodIn_app (goodIn_of _ (by decide +kernel)) ggX11_most_X9_copyCount
set_option maxRecDepth 20000 in
theorem ggX11_most_X6_partsOfUnknown : GoodIn wsX11_most wsX6_partsOfUnknown := goodIn_r _ [107, 64, 108, 109, 110, 111, 61, 112, 63, 65, 66, 67, 68, 32, 69, 36, 35, 159, 160, 132, 133, 134, 135, 136, 137, 138, 144, 145, 146, 147, 148, 149, 150, 151, 152, 153, 154, 155, 156, 157, 158] (by decide +kernel) (by decide +kernel)
set_option maxRecDepth 20000 in
theorem gX11_most_X6_partsOfUnknown : GoodIn wsX11_most (wsV RX11 434 RX6 yX6_partsOfUnknown wsX6_partsOfUnknown) := goodIn_app (goodIn_of _ (by decide +kernel)) ggX11_most_X6_partsOfUnknown
theorem dX11_most_0 : decode cX11_most 0 = .ok (.aload_n 0, 1) := by decide +kernel
theorem dX11_most_1 : decode cX11_most 1 = .ok (.invokevirtual 156, 3) := by decide +kernel
theorem dX11_most_4 : decode cX11_most 4 = .ok (.ifCond .eq 6, 3) := by decide +kernel
theorem dX11_most_7 : decode cX11_most 7 = .ok (.ldc 246, 2) := by decide +kernel
theorem dX11_most_9 : decode cX11_most 9 = .ok (.ireturn, 1) := by decide +kernel
theorem dX11_most_10 : decode cX11_most 10 = .ok (.aload_n 0, 1) := by decide +kernel
theorem dX11_most_11 : decode cX11_most 11 = .ok (.getfield 83, 3) := by decide +kernel
theorem dX11_most_14 : decode cX11_most 14 = .ok (.aload_n 0, 1) := by decide +kernel
theorem dX11_most_15 : decode cX11_most 15 = .ok (.getfield 40, 3) := by decide +kernel
theorem dX11_most_18 : decode cX11_most 18 = .ok (.invokevirtual 207, 3) := by decide +kernel
theorem dX11_most_21 : decode cX11_most 21 = .ok (.iload_n 1, 1) := by decide +kernel
theorem dX11_most_22 : decode cX11_most 22 = .ok (.tableswitch 160 0 8 #[50, 68, 76, 88, 96, 105, 114, 122, 152], 50) := by decide +kernel
theorem dX11_most_72 : decode cX11_most 72 = .ok (.aload_n 0, 1) := by decide +kernel
theorem dX11_most_73 : decode cX11_most 73 = .ok (.getfield 23, 3) := by decide +kernel
theorem dX11_most_76 : decode cX11_most 76 = .ok (.invokevirtual 316, 3) := by decide +kernel
theorem dX11_most_79 : decode cX11_most 79 = .ok (.aload_n 0, 1) := by decide +kernel
theorem dX11_most_80 : decode cX11_most 80 = .ok (.getfield 83, 3) := by decide +kernel
theorem dX11_most_83 : decode cX11_most 83 = .ok (.getfield 239, 3) := by decide +kernel
theorem dX11_most_86 : decode cX11_most 86 = .ok (.iconst (-1), 1) := by decide +kernel
theorem dX11_most_87 : decode cX11_most 87 = .ok (.ixor, 1) := by decide +kernel
theorem dX11_most_88 : decode cX11_most 88 = .ok (.iand, 1) := by decide +kernel
theorem dX11_most_89 : decode cX11_most 89 = .ok (.ireturn, 1) := by decide +kernel
theorem dX11_most_90 : decode cX11_most 90 = .ok (.aload_n 0, 1) := by decide +kernel
theorem dX11_most_91 : decode cX11_most 91 = .ok (.getfield 99, 3) := by decide +kernel
theorem dX11_most_94 : decode cX11_most 94 = .ok (.invokevirtual 418, 3) := by decide +kernel
theorem dX11_most_97 : decode cX11_most 97 = .ok (.ireturn, 1) := by decide +kernel
theorem dX11_most_98 : decode cX11_most 98 = .ok (.aload_n 0, 1) := by decide +kernel
theorem dX11_most_99 : decode cX11_most 99 = .ok (.getfield 99, 3) := by decide +kernel
theorem dX11_most_102 : decode cX11_most 102 = .ok (.aload_n 0, 1) := by decide +kernel
theorem dX11_most_103 : decode cX11_most 103 = .ok (.getfield 40, 3) := by decide +kernel
theorem dX11_most_106 : decode cX11_most 106 = .ok (.invokevirtual 421, 3) := by decide +kernel
theorem dX11_most_109 : decode cX11_most 109 = .ok (.ireturn, 1) := by decide +kernel
theorem dX11_most_110 : decode cX11_most 110 = .ok (.aload_n 0, 1) := by decide +kernel
theorem dX11_most_111 : decode cX11_most 111 = .ok (.getfield 99, 3) := by decide +kernel
theorem dX11_most_114 : decode cX11_most 114 = .ok (.invokevirtual 425, 3) := by decide +kernel
theorem dX11_most_117 : decode cX11_most 117 = .ok (.ireturn, 1) := by decide +kernel
theorem dX11_most_118 : decode cX11_most 118 = .ok (.aload_n 0, 1) := by decide +kernel
theorem dX11_most_119 : decode cX11_most 119 = .ok (.getfield 99, 3) := by decide +kernel
theorem dX11_most_122 : decode cX11_most 122 = .ok (.iconst 0, 1) := by decide +kernel
theorem dX11_most_123 : decode cX11_most 123 = .ok (.invokevirtual 428, 3) := by decide +kernel
theorem dX11_most_126 : decode cX11_most 126 = .ok (.ireturn, 1) := by decide +kernel
theorem dX11_most_127 : decode cX11_most 127 = .ok (.aload_n 0, 1) := by decide +kernel
theorem dX11_most_128 : decode cX11_most 128 = .ok (.getfield 99, 3) := by decide +kernel
theorem dX11_most_131 : decode cX11_most 131 = .ok (.iconst 1, 1) := by decide +kernel
theorem dX11_most_132 : decode cX11_most 132 = .ok (.invokevirtual 428, 3) := by decide +kernel
theorem dX11_most_135 : decode cX11_most 135 = .ok (.ireturn, 1) := by decide +kernel
theorem dX11_most_136 : decode cX11_most 136 = .ok (.aload_n 0, 1) := by decide +kernel
theorem dX11_most_137 : decode cX11_most 137 = .ok (.getfield 40, 3) := by decide +kernel
theorem dX11_most_140 : decode cX11_most 140 = .ok (.invokevirtual 431, 3) := by decide +kernel
theorem dX11_most_143 : decode cX11_most 143 = .ok (.ireturn, 1) := by decide +kernel
theorem dX11_most_144 : decode cX11_most 144 = .ok (.aload_n 0, 1) := by decide +kernel
theorem dX11_most_145 : decode cX11_most 145 = .ok (.getfield 40, 3) := by decide +kernel
theorem dX11_most_148 : decode cX11_most 148 = .ok (.getfield 283, 3) := by decide +kernel
theorem dX11_most_151 : decode cX11_most 151 = .ok (.iconst 0, 1) := by decide +kernel
theorem dX11_most_152 : decode cX11_most 152 = .ok (.iaload, 1) := by decide +kernel
theorem dX11_most_153 : decode cX11_most 153 = .ok (.aload_n 0, 1) := by decide +kernel
theorem dX11_most_154 : decode cX11_most 154 = .ok (.getfield 40, 3) := by decide +kernel
theorem dX11_most_157 : decode cX11_most 157 = .ok (.getfield 283, 3) := by decide +kernel
theorem dX11_most_160 : decode cX11_most 160 = .ok (.iconst 1, 1) := by decide +kernel
theorem dX11_most_161 : decode cX11_most 161 = .ok (.iaload, 1) := by decide +kernel
theorem dX11_most_162 : decode cX11_most 162 = .ok (.iadd, 1) := by decide +kernel
theorem dX11_most_163 : decode cX11_most 163 = .ok (.aload_n 0, 1) := by decide +kernel
theorem dX11_most_164 : decode cX11_most 164 = .ok (.getfield 40, 3) := by decide +kernel
theorem dX11_most_167 : decode cX11_most 167 = .ok (.getfield 283, 3) := by decide +kernel
theorem dX11_most_170 : decode cX11_most 170 = .ok (.iconst 2, 1) := by decide +kernel
theorem dX11_most_171 : decode cX11_most 171 = .ok (.iaload, 1) := by decide +kernel
theorem dX11_most_172 : decode cX11_most 172 = .ok (.iadd, 1) := by decide +kernel
theorem dX11_most_173 : decode cX11_most 173 = .ok (.ireturn, 1) := by decide +kernel
theorem dX11_most_174 : decode cX11_most 174 = .ok (.aload_n 0, 1) := by decide +kernel
theorem dX11_most_175 : decode cX11_most 175 = .ok (.getfield 99, 3) := by decide +kernel
theorem dX11_most_178 : decode cX11_most 178 = .ok (.invokevirtual 434, 3) := by decide +kernel
theorem dX11_most_181 : decode cX11_most 181 = .ok (.ireturn, 1) := by decide +kernel
theorem dX11_most_182 : decode cX11_most 182 = .ok (.ldc 246, 2) := by decide +kernel
theorem dX11_most_184 : decode cX11_most 184 = .ok (.ireturn, 1) := by decide +kernel
set_option maxRecDepth 20000 in
theorem ggX11_image_X11_noField : GoodIn wsX11_image wsX11_noField := goodIn_r _ [10, 11, 12, 41, 42, 43, 44, 45, 46, 47, 48, 49, 50, 51, 52, 53, 54, 55, 56, 57, 58, 59, 60, 61, 62, 63, 64, 65, 66, 67, 68, 69, 70, 71, 72, 73, 74] (by decide +kernel) (by decide +kernel)
set_option maxRecDepth 20000 in
theorem gX11_image_X11_noField : GoodIn wsX11_image (wsV RX11 156 RX11 yX11_noField wsX11_noField) := goodIn_app (goodIn_of _ (by decide +kernel)) ggX11_image_X11_noField
set_option maxRecDepth 20000 in
theorem ggX11_image_X9_takeFrom : GoodIn wsX11_image wsX9_takeFrom := goodIn_r _ [17, 18, 19, 20, 21, 22, 23, 24, 25, 26, 75, 76, 77, 78, 79] (by decide +kernel) (by decide +kernel)
set_option maxRecDepth 20000 in
theorem gX11_image_X9_takeFrom : GoodIn wsX11_image (wsV RX11 408 RX9 yX9_takeFrom wsX9_takeFrom) := goodIn_app (goodIn_of _ (by decide +kernel)) ggX11_image_X9_takeFrom
set_option maxRecDepth 20000 in
theorem ggX11_image_X4_takeFrom : GoodIn wsX11_image wsX4_takeFrom := goodIn_r _ [31, 32, 33, 20, 21, 22, 34, 35, 36, 80, 81, 82, 83] (by decide +kernel) (by decide +kernel)
set_option maxRecDepth 20000 in
theorem gX11_image_X4_takeFrom : GoodIn wsX11_image (wsV RX11 437 RX4 yX4_takeFrom wsX4_takeFrom) := goodIn_app (goodIn_of _ (by decide +kernel)) ggX11_image_X4_takeFrom
set_option maxRecDepth 20000 in
theorem ggX11_image_X9_knownCount : GoodIn wsX11_image wsX9_knownCount := goodIn_r _ [40, 18, 75, 76, 77, 78, 79] (by decide +kernel) (by decide +kernel)
set_option maxRecDepth 20000 in
theorem gX11_image_X9_knownCount : GoodIn wsX11_image (wsV RX11 269 RX9 yX9_knownCount wsX9_knownCount) := goodIn_app (goodIn_of _ (by decide +kernel)) ggX11_image_X9_knownCount
theorem dX11_image_0 : decode cX11_image 0 = .ok (.aload_n 0, 1) := by decide +kernel
theorem dX11_image_1 : decode cX11_image 1 = .ok (.invokevirtual 156, 3) := by decide +kernel
theorem dX11_image_4 : decode cX11_image 4 = .ok (.ifCond .eq 5, 3) := by decide +kernel
theorem dX11_image_7 : decode cX11_image 7 = .ok (.iconst (-1), 1) := by decide +kernel
theorem dX11_image_8 : decode cX11_image 8 = .ok (.ireturn, 1) := by decide +kernel
theorem dX11_image_9 : decode cX11_image 9 = .ok (.aload_n 0, 1) := by decide +kernel
theorem dX11_image_10 : decode cX11_image 10 = .ok (.getfield 47, 3) := by decide +kernel
theorem dX11_image_13 : decode cX11_image 13 = .ok (.aload_n 0, 1) := by decide +kernel
theorem dX11_image_14 : decode cX11_image 14 = .ok (.getfield 40, 3) := by decide +kernel
theorem dX11_image_17 : decode cX11_image 17 = .ok (.invokevirtual 408, 3) := by decide +kernel
theorem dX11_image_20 : decode cX11_image 20 = .ok (.aload_n 0, 1) := by decide +kernel
theorem dX11_image_21 : decode cX11_image 21 = .ok (.getfield 57, 3) := by decide +kernel
theorem dX11_image_24 : decode cX11_image 24 = .ok (.aload_n 0, 1) := by decide +kernel
theorem dX11_image_25 : decode cX11_image 25 = .ok (.getfield 53, 3) := by decide +kernel
theorem dX11_image_28 : decode cX11_image 28 = .ok (.invokevirtual 437, 3) := by decide +kernel
theorem dX11_image_31 : decode cX11_image 31 = .ok (.aload_n 0, 1) := by decide +kernel
theorem dX11_image_32 : decode cX11_image 32 = .ok (.iconst 1, 1) := by decide +kernel
theorem dX11_image_33 : decode cX11_image 33 = .ok (.putfield 143, 3) := by decide +kernel
theorem dX11_image_36 : decode cX11_image 36 = .ok (.aload_n 0, 1) := by decide +kernel
theorem dX11_image_37 : decode cX11_image 37 = .ok (.getfield 40, 3) := by decide +kernel
theorem dX11_image_40 : decode cX11_image 40 = .ok (.invokevirtual 269, 3) := by decide +kernel
theorem dX11_image_43 : decode cX11_image 43 = .ok (.ireturn, 1) := by decide +kernel
set_option maxRecDepth 20000 in
theorem ggX11_back_X9_takeFrom : GoodIn wsX11_back wsX9_takeFrom := goodIn_r _ [12, 13, 14, 15, 16, 17, 18, 19, 20, 21, 58, 59, 60, 61, 62] (by decide +kernel) (by decide +kernel)
set_option maxRecDepth 20000 in
theorem gX11_back_X9_takeFrom : GoodIn wsX11_back (wsV RX11 408 RX9 yX9_takeFrom wsX9_takeFrom) := goodIn_app (goodIn_of _ (by decide +kernel)) ggX11_back_X9_takeFrom
set_option maxRecDepth 20000 in
theorem ggX11_back_X4_takeFrom : GoodIn wsX11_back wsX4_takeFrom := goodIn_r _ [26, 27, 28, 15, 16, 17, 29, 30, 31, 63, 64, 65, 66] (by decide +kernel) (by decide +kernel)
set_option maxRecDepth 20000 in
theorem gX11_back_X4_takeFrom : GoodIn wsX11_back (wsV RX11 437 RX4 yX4_takeFrom wsX4_takeFrom) := goodIn_app (goodIn_of _ (by decide +kernel)) ggX11_back_X4_takeFrom
set_option maxRecDepth 20000 in
theorem ggX11_back_X9_knownCount : GoodIn wsX11_back wsX9_knownCount := goodIn_r _ [35, 13, 58, 59, 60, 61, 62] (by decide +kernel) (by decide +kernel)
set_option maxRecDepth 20000 in
theorem gX11_back_X9_knownCount : GoodIn wsX11_back (wsV RX11 269 RX9 yX9_knownCount wsX9_knownCount) := goodIn_app (goodIn_of _ (by decide +kernel)) ggX11_back_X9_knownCount
theorem dX11_back_0 : decode cX11_back 0 = .ok (.aload_n 0, 1) := by decide +kernel
theorem dX11_back_1 : decode cX11_back 1 = .ok (.getfield 143, 3) := by decide +kernel
theorem dX11_back_4 : decode cX11_back 4 = .ok (.ifCond .ne 5, 3) := by decide +kernel
theorem dX11_back_7 : decode cX11_back 7 = .ok (.iconst (-1), 1) := by decide +kernel
theorem dX11_back_8 : decode cX11_back 8 = .ok (.ireturn, 1) := by decide +kernel
theorem dX11_back_9 : decode cX11_back 9 = .ok (.aload_n 0, 1) := by decide +kernel
theorem dX11_back_10 : decode cX11_back 10 = .ok (.getfield 40, 3) := by decide +kernel
theorem dX11_back_13 : decode cX11_back 13 = .ok (.aload_n 0, 1) := by decide +kernel
theorem dX11_back_14 : decode cX11_back 14 = .ok (.getfield 47, 3) := by decide +kernel
theorem dX11_back_17 : decode cX11_back 17 = .ok (.invokevirtual 408, 3) := by decide +kernel
theorem dX11_back_20 : decode cX11_back 20 = .ok (.aload_n 0, 1) := by decide +kernel
theorem dX11_back_21 : decode cX11_back 21 = .ok (.getfield 53, 3) := by decide +kernel
theorem dX11_back_24 : decode cX11_back 24 = .ok (.aload_n 0, 1) := by decide +kernel
theorem dX11_back_25 : decode cX11_back 25 = .ok (.getfield 57, 3) := by decide +kernel
theorem dX11_back_28 : decode cX11_back 28 = .ok (.invokevirtual 437, 3) := by decide +kernel
theorem dX11_back_31 : decode cX11_back 31 = .ok (.aload_n 0, 1) := by decide +kernel
theorem dX11_back_32 : decode cX11_back 32 = .ok (.getfield 63, 3) := by decide +kernel
theorem dX11_back_35 : decode cX11_back 35 = .ok (.iconst 0, 1) := by decide +kernel
theorem dX11_back_36 : decode cX11_back 36 = .ok (.putfield 140, 3) := by decide +kernel
theorem dX11_back_39 : decode cX11_back 39 = .ok (.aload_n 0, 1) := by decide +kernel
theorem dX11_back_40 : decode cX11_back 40 = .ok (.getfield 40, 3) := by decide +kernel
theorem dX11_back_43 : decode cX11_back 43 = .ok (.invokevirtual 269, 3) := by decide +kernel
theorem dX11_back_46 : decode cX11_back 46 = .ok (.ireturn, 1) := by decide +kernel
set_option maxRecDepth 20000 in
theorem ggX11_count_X4_seen : GoodIn wsX11_count wsX4_seen := goodIn_r _ [14, 15, 16, 17, 18, 19, 61, 62, 63, 64] (by decide +kernel) (by decide +kernel)
set_option maxRecDepth 20000 in
theorem gX11_count_X4_seen : GoodIn wsX11_count (wsV RX11 307 RX4 yX4_seen wsX4_seen) := goodIn_app (goodIn_of _ (by decide +kernel)) ggX11_count_X4_seen
theorem dX11_count_0 : decode cX11_count 0 = .ok (.iload_n 1, 1) := by decide +kernel
theorem dX11_count_1 : decode cX11_count 1 = .ok (.tableswitch 72 0 4 #[35, 43, 48, 56, 64], 35) := by decide +kernel
theorem dX11_count_36 : decode cX11_count 36 = .ok (.aload_n 0, 1) := by decide +kernel
theorem dX11_count_37 : decode cX11_count 37 = .ok (.getfield 23, 3) := by decide +kernel
theorem dX11_count_40 : decode cX11_count 40 = .ok (.getfield 147, 3) := by decide +kernel
theorem dX11_count_43 : decode cX11_count 43 = .ok (.ireturn, 1) := by decide +kernel
theorem dX11_count_44 : decode cX11_count 44 = .ok (.aload_n 0, 1) := by decide +kernel
theorem dX11_count_45 : decode cX11_count 45 = .ok (.getfield 150, 3) := by decide +kernel
theorem dX11_count_48 : decode cX11_count 48 = .ok (.ireturn, 1) := by decide +kernel
theorem dX11_count_49 : decode cX11_count 49 = .ok (.aload_n 0, 1) := by decide +kernel
theorem dX11_count_50 : decode cX11_count 50 = .ok (.getfield 12, 3) := by decide +kernel
theorem dX11_count_53 : decode cX11_count 53 = .ok (.getfield 114, 3) := by decide +kernel
theorem dX11_count_56 : decode cX11_count 56 = .ok (.ireturn, 1) := by decide +kernel
theorem dX11_count_57 : decode cX11_count 57 = .ok (.aload_n 0, 1) := by decide +kernel
theorem dX11_count_58 : decode cX11_count 58 = .ok (.getfield 53, 3) := by decide +kernel
theorem dX11_count_61 : decode cX11_count 61 = .ok (.invokevirtual 307, 3) := by decide +kernel
theorem dX11_count_64 : decode cX11_count 64 = .ok (.ireturn, 1) := by decide +kernel
theorem dX11_count_65 : decode cX11_count 65 = .ok (.aload_n 0, 1) := by decide +kernel
theorem dX11_count_66 : decode cX11_count 66 = .ok (.getfield 63, 3) := by decide +kernel
theorem dX11_count_69 : decode cX11_count 69 = .ok (.getfield 140, 3) := by decide +kernel
theorem dX11_count_72 : decode cX11_count 72 = .ok (.ireturn, 1) := by decide +kernel
theorem dX11_count_73 : decode cX11_count 73 = .ok (.ldc 246, 2) := by decide +kernel
theorem dX11_count_75 : decode cX11_count 75 = .ok (.ireturn, 1) := by decide +kernel
theorem dX11_singleBits_0 : decode cX11_singleBits 0 = .ok (.fload_n 0, 1) := by decide +kernel
theorem dX11_singleBits_1 : decode cX11_singleBits 1 = .ok (.fconst 0, 1) := by decide +kernel
theorem dX11_singleBits_2 : decode cX11_singleBits 2 = .ok (.fcmp .l, 1) := by decide +kernel
theorem dX11_singleBits_3 : decode cX11_singleBits 3 = .ok (.ifCond .ne 5, 3) := by decide +kernel
theorem dX11_singleBits_6 : decode cX11_singleBits 6 = .ok (.iconst 0, 1) := by decide +kernel
theorem dX11_singleBits_7 : decode cX11_singleBits 7 = .ok (.ireturn, 1) := by decide +kernel
theorem dX11_singleBits_8 : decode cX11_singleBits 8 = .ok (.fload_n 0, 1) := by decide +kernel
theorem dX11_singleBits_9 : decode cX11_singleBits 9 = .ok (.fconst 0, 1) := by decide +kernel
theorem dX11_singleBits_10 : decode cX11_singleBits 10 = .ok (.fcmp .g, 1) := by decide +kernel
theorem dX11_singleBits_11 : decode cX11_singleBits 11 = .ok (.ifCond .ge 8, 3) := by decide +kernel
theorem dX11_singleBits_14 : decode cX11_singleBits 14 = .ok (.fload_n 0, 1) := by decide +kernel
theorem dX11_singleBits_15 : decode cX11_singleBits 15 = .ok (.fneg, 1) := by decide +kernel
theorem dX11_singleBits_16 : decode cX11_singleBits 16 = .ok (.goto 4, 3) := by decide +kernel
theorem dX11_singleBits_19 : decode cX11_singleBits 19 = .ok (.fload_n 0, 1) := by decide +kernel
theorem dX11_singleBits_20 : decode cX11_singleBits 20 = .ok (.fstore_n 1, 1) := by decide +kernel
theorem dX11_singleBits_21 : decode cX11_singleBits 21 = .ok (.bipush 127, 2) := by decide +kernel
theorem dX11_singleBits_23 : decode cX11_singleBits 23 = .ok (.istore_n 2, 1) := by decide +kernel
theorem dX11_singleBits_24 : decode cX11_singleBits 24 = .ok (.iconst 0, 1) := by decide +kernel
theorem dX11_singleBits_25 : decode cX11_singleBits 25 = .ok (.istore_n 3, 1) := by decide +kernel
theorem dX11_singleBits_26 : decode cX11_singleBits 26 = .ok (.iload_n 3, 1) := by decide +kernel
theorem dX11_singleBits_27 : decode cX11_singleBits 27 = .ok (.sipush 300, 3) := by decide +kernel
theorem dX11_singleBits_30 : decode cX11_singleBits 30 = .ok (.if_icmp .ge 22, 3) := by decide +kernel
theorem dX11_singleBits_33 : decode cX11_singleBits 33 = .ok (.fload_n 1, 1) := by decide +kernel
theorem dX11_singleBits_34 : decode cX11_singleBits 34 = .ok (.fconst 2, 1) := by decide +kernel
theorem dX11_singleBits_35 : decode cX11_singleBits 35 = .ok (.fcmp .l, 1) := by decide +kernel
theorem dX11_singleBits_36 : decode cX11_singleBits 36 = .ok (.ifCond .lt 16, 3) := by decide +kernel
theorem dX11_singleBits_39 : decode cX11_singleBits 39 = .ok (.fload_n 1, 1) := by decide +kernel
theorem dX11_singleBits_40 : decode cX11_singleBits 40 = .ok (.fconst 2, 1) := by decide +kernel
theorem dX11_singleBits_41 : decode cX11_singleBits 41 = .ok (.fdiv, 1) := by decide +kernel
theorem dX11_singleBits_42 : decode cX11_singleBits 42 = .ok (.fstore_n 1, 1) := by decide +kernel
theorem dX11_singleBits_43 : decode cX11_singleBits 43 = .ok (.iinc 2 1, 3) := by decide +kernel
theorem dX11_singleBits_46 : decode cX11_singleBits 46 = .ok (.iinc 3 1, 3) := by decide +kernel
theorem dX11_singleBits_49 : decode cX11_singleBits 49 = .ok (.goto (-23), 3) := by decide +kernel
theorem dX11_singleBits_52 : decode cX11_singleBits 52 = .ok (.iconst 0, 1) := by decide +kernel
theorem dX11_singleBits_53 : decode cX11_singleBits 53 = .ok (.istore_n 3, 1) := by decide +kernel
theorem dX11_singleBits_54 : decode cX11_singleBits 54 = .ok (.iload_n 3, 1) := by decide +kernel
theorem dX11_singleBits_55 : decode cX11_singleBits 55 = .ok (.sipush 300, 3) := by decide +kernel
theorem dX11_singleBits_58 : decode cX11_singleBits 58 = .ok (.if_icmp .ge 22, 3) := by decide +kernel
theorem dX11_singleBits_61 : decode cX11_singleBits 61 = .ok (.fload_n 1, 1) := by decide +kernel
theorem dX11_singleBits_62 : decode cX11_singleBits 62 = .ok (.fconst 1, 1) := by decide +kernel
theorem dX11_singleBits_63 : decode cX11_singleBits 63 = .ok (.fcmp .g, 1) := by decide +kernel
theorem dX11_singleBits_64 : decode cX11_singleBits 64 = .ok (.ifCond .ge 16, 3) := by decide +kernel
theorem dX11_singleBits_67 : decode cX11_singleBits 67 = .ok (.fload_n 1, 1) := by decide +kernel
theorem dX11_singleBits_68 : decode cX11_singleBits 68 = .ok (.fconst 2, 1) := by decide +kernel
theorem dX11_singleBits_69 : decode cX11_singleBits 69 = .ok (.fmul, 1) := by decide +kernel
theorem dX11_singleBits_70 : decode cX11_singleBits 70 = .ok (.fstore_n 1, 1) := by decide +kernel
theorem dX11_singleBits_71 : decode cX11_singleBits 71 = .ok (.iinc 2 (-1), 3) := by decide +kernel
theorem dX11_singleBits_74 : decode cX11_singleBits 74 = .ok (.iinc 3 1, 3) := by decide +kernel
theorem dX11_singleBits_77 : decode cX11_singleBits 77 = .ok (.goto (-23), 3) := by decide +kernel
theorem dX11_singleBits_80 : decode cX11_singleBits 80 = .ok (.iload_n 2, 1) := by decide +kernel
theorem dX11_singleBits_81 : decode cX11_singleBits 81 = .ok (.bipush 23, 2) := by decide +kernel
theorem dX11_singleBits_83 : decode cX11_singleBits 83 = .ok (.ishl, 1) := by decide +kernel
theorem dX11_singleBits_84 : decode cX11_singleBits 84 = .ok (.fload_n 1, 1) := by decide +kernel
theorem dX11_singleBits_85 : decode cX11_singleBits 85 = .ok (.fconst 1, 1) := by decide +kernel
theorem dX11_singleBits_86 : decode cX11_singleBits 86 = .ok (.fsub, 1) := by decide +kernel
theorem dX11_singleBits_87 : decode cX11_singleBits 87 = .ok (.ldc_w 440, 3) := by decide +kernel
theorem dX11_singleBits_90 : decode cX11_singleBits 90 = .ok (.fmul, 1) := by decide +kernel
theorem dX11_singleBits_91 : decode cX11_singleBits 91 = .ok (.f2i, 1) := by decide +kernel
theorem dX11_singleBits_92 : decode cX11_singleBits 92 = .ok (.ior, 1) := by decide +kernel
theorem dX11_singleBits_93 : decode cX11_singleBits 93 = .ok (.istore_n 3, 1) := by decide +kernel
theorem dX11_singleBits_94 : decode cX11_singleBits 94 = .ok (.fload_n 0, 1) := by decide +kernel
theorem dX11_singleBits_95 : decode cX11_singleBits 95 = .ok (.fconst 0, 1) := by decide +kernel
theorem dX11_singleBits_96 : decode cX11_singleBits 96 = .ok (.fcmp .g, 1) := by decide +kernel
theorem dX11_singleBits_97 : decode cX11_singleBits 97 = .ok (.ifCond .ge 11, 3) := by decide +kernel
theorem dX11_singleBits_100 : decode cX11_singleBits 100 = .ok (.iload_n 3, 1) := by decide +kernel
theorem dX11_singleBits_101 : decode cX11_singleBits 101 = .ok (.ldc_w 441, 3) := by decide +kernel
theorem dX11_singleBits_104 : decode cX11_singleBits 104 = .ok (.ior, 1) := by decide +kernel
theorem dX11_singleBits_105 : decode cX11_singleBits 105 = .ok (.goto 4, 3) := by decide +kernel
theorem dX11_singleBits_108 : decode cX11_singleBits 108 = .ok (.iload_n 3, 1) := by decide +kernel
theorem dX11_singleBits_109 : decode cX11_singleBits 109 = .ok (.ireturn, 1) := by decide +kernel
theorem dX11_doubleBits_0 : decode cX11_doubleBits 0 = .ok (.dload_n 0, 1) := by decide +kernel
theorem dX11_doubleBits_1 : decode cX11_doubleBits 1 = .ok (.dconst 0, 1) := by decide +kernel
theorem dX11_doubleBits_2 : decode cX11_doubleBits 2 = .ok (.dcmp .l, 1) := by decide +kernel
theorem dX11_doubleBits_3 : decode cX11_doubleBits 3 = .ok (.ifCond .ne 5, 3) := by decide +kernel
theorem dX11_doubleBits_6 : decode cX11_doubleBits 6 = .ok (.lconst 0, 1) := by decide +kernel
theorem dX11_doubleBits_7 : decode cX11_doubleBits 7 = .ok (.lreturn, 1) := by decide +kernel
theorem dX11_doubleBits_8 : decode cX11_doubleBits 8 = .ok (.dload_n 0, 1) := by decide +kernel
theorem dX11_doubleBits_9 : decode cX11_doubleBits 9 = .ok (.dconst 0, 1) := by decide +kernel
theorem dX11_doubleBits_10 : decode cX11_doubleBits 10 = .ok (.dcmp .g, 1) := by decide +kernel
theorem dX11_doubleBits_11 : decode cX11_doubleBits 11 = .ok (.ifCond .ge 8, 3) := by decide +kernel
theorem dX11_doubleBits_14 : decode cX11_doubleBits 14 = .ok (.dload_n 0, 1) := by decide +kernel
theorem dX11_doubleBits_15 : decode cX11_doubleBits 15 = .ok (.dneg, 1) := by decide +kernel
theorem dX11_doubleBits_16 : decode cX11_doubleBits 16 = .ok (.goto 4, 3) := by decide +kernel
theorem dX11_doubleBits_19 : decode cX11_doubleBits 19 = .ok (.dload_n 0, 1) := by decide +kernel
theorem dX11_doubleBits_20 : decode cX11_doubleBits 20 = .ok (.dstore_n 2, 1) := by decide +kernel
theorem dX11_doubleBits_21 : decode cX11_doubleBits 21 = .ok (.ldc2_w 442, 3) := by decide +kernel
theorem dX11_doubleBits_24 : decode cX11_doubleBits 24 = .ok (.lstore 4, 2) := by decide +kernel
theorem dX11_doubleBits_26 : decode cX11_doubleBits 26 = .ok (.iconst 0, 1) := by decide +kernel
theorem dX11_doubleBits_27 : decode cX11_doubleBits 27 = .ok (.istore 6, 2) := by decide +kernel
theorem dX11_doubleBits_29 : decode cX11_doubleBits 29 = .ok (.iload 6, 2) := by decide +kernel
theorem dX11_doubleBits_31 : decode cX11_doubleBits 31 = .ok (.sipush 2200, 3) := by decide +kernel
theorem dX11_doubleBits_34 : decode cX11_doubleBits 34 = .ok (.if_icmp .ge 29, 3) := by decide +kernel
theorem dX11_doubleBits_37 : decode cX11_doubleBits 37 = .ok (.dload_n 2, 1) := by decide +kernel
theorem dX11_doubleBits_38 : decode cX11_doubleBits 38 = .ok (.ldc2_w 444, 3) := by decide +kernel
theorem dX11_doubleBits_41 : decode cX11_doubleBits 41 = .ok (.dcmp .l, 1) := by decide +kernel
theorem dX11_doubleBits_42 : decode cX11_doubleBits 42 = .ok (.ifCond .lt 21, 3) := by decide +kernel
theorem dX11_doubleBits_45 : decode cX11_doubleBits 45 = .ok (.dload_n 2, 1) := by decide +kernel
theorem dX11_doubleBits_46 : decode cX11_doubleBits 46 = .ok (.ldc2_w 444, 3) := by decide +kernel
theorem dX11_doubleBits_49 : decode cX11_doubleBits 49 = .ok (.ddiv, 1) := by decide +kernel
theorem dX11_doubleBits_50 : decode cX11_doubleBits 50 = .ok (.dstore_n 2, 1) := by decide +kernel
theorem dX11_doubleBits_51 : decode cX11_doubleBits 51 = .ok (.lload 4, 2) := by decide +kernel
theorem dX11_doubleBits_53 : decode cX11_doubleBits 53 = .ok (.lconst 1, 1) := by decide +kernel
theorem dX11_doubleBits_54 : decode cX11_doubleBits 54 = .ok (.ladd, 1) := by decide +kernel
theorem dX11_doubleBits_55 : decode cX11_doubleBits 55 = .ok (.lstore 4, 2) := by decide +kernel
theorem dX11_doubleBits_57 : decode cX11_doubleBits 57 = .ok (.iinc 6 1, 3) := by decide +kernel
theorem dX11_doubleBits_60 : decode cX11_doubleBits 60 = .ok (.goto (-31), 3) := by decide +kernel
theorem dX11_doubleBits_63 : decode cX11_doubleBits 63 = .ok (.iconst 0, 1) := by decide +kernel
theorem dX11_doubleBits_64 : decode cX11_doubleBits 64 = .ok (.istore 6, 2) := by decide +kernel
theorem dX11_doubleBits_66 : decode cX11_doubleBits 66 = .ok (.iload 6, 2) := by decide +kernel
theorem dX11_doubleBits_68 : decode cX11_doubleBits 68 = .ok (.sipush 2200, 3) := by decide +kernel
theorem dX11_doubleBits_71 : decode cX11_doubleBits 71 = .ok (.if_icmp .ge 27, 3) := by decide +kernel
theorem dX11_doubleBits_74 : decode cX11_doubleBits 74 = .ok (.dload_n 2, 1) := by decide +kernel
theorem dX11_doubleBits_75 : decode cX11_doubleBits 75 = .ok (.dconst 1, 1) := by decide +kernel
theorem dX11_doubleBits_76 : decode cX11_doubleBits 76 = .ok (.dcmp .g, 1) := by decide +kernel
theorem dX11_doubleBits_77 : decode cX11_doubleBits 77 = .ok (.ifCond .ge 21, 3) := by decide +kernel
theorem dX11_doubleBits_80 : decode cX11_doubleBits 80 = .ok (.dload_n 2, 1) := by decide +kernel
theorem dX11_doubleBits_81 : decode cX11_doubleBits 81 = .ok (.ldc2_w 444, 3) := by decide +kernel
theorem dX11_doubleBits_84 : decode cX11_doubleBits 84 = .ok (.dmul, 1) := by decide +kernel
theorem dX11_doubleBits_85 : decode cX11_doubleBits 85 = .ok (.dstore_n 2, 1) := by decide +kernel
theorem dX11_doubleBits_86 : decode cX11_doubleBits 86 = .ok (.lload 4, 2) := by decide +kernel
theorem dX11_doubleBits_88 : decode cX11_doubleBits 88 = .ok (.lconst 1, 1) := by decide +kernel
theorem dX11_doubleBits_89 : decode cX11_doubleBits 89 = .ok (.lsub, 1) := by decide +kernel
theorem dX11_doubleBits_90 : decode cX11_doubleBits 90 = .ok (.lstore 4, 2) := by decide +kernel
theorem dX11_doubleBits_92 : decode cX11_doubleBits 92 = .ok (.iinc 6 1, 3) := by decide +kernel
theorem dX11_doubleBits_95 : decode cX11_doubleBits 95 = .ok (.goto (-29), 3) := by decide +kernel
theorem dX11_doubleBits_98 : decode cX11_doubleBits 98 = .ok (.lload 4, 2) := by decide +kernel
theorem dX11_doubleBits_100 : decode cX11_doubleBits 100 = .ok (.bipush 52, 2) := by decide +kernel
theorem dX11_doubleBits_102 : decode cX11_doubleBits 102 = .ok (.lshl, 1) := by decide +kernel
theorem dX11_doubleBits_103 : decode cX11_doubleBits 103 = .ok (.dload_n 2, 1) := by decide +kernel
theorem dX11_doubleBits_104 : decode cX11_doubleBits 104 = .ok (.dconst 1, 1) := by decide +kernel
theorem dX11_doubleBits_105 : decode cX11_doubleBits 105 = .ok (.dsub, 1) := by decide +kernel
theorem dX11_doubleBits_106 : decode cX11_doubleBits 106 = .ok (.ldc2_w 446, 3) := by decide +kernel
theorem dX11_doubleBits_109 : decode cX11_doubleBits 109 = .ok (.dmul, 1) := by decide +kernel
theorem dX11_doubleBits_110 : decode cX11_doubleBits 110 = .ok (.d2l, 1) := by decide +kernel
theorem dX11_doubleBits_111 : decode cX11_doubleBits 111 = .ok (.lor, 1) := by decide +kernel
theorem dX11_doubleBits_112 : decode cX11_doubleBits 112 = .ok (.lstore 6, 2) := by decide +kernel
theorem dX11_doubleBits_114 : decode cX11_doubleBits 114 = .ok (.dload_n 0, 1) := by decide +kernel
theorem dX11_doubleBits_115 : decode cX11_doubleBits 115 = .ok (.dconst 0, 1) := by decide +kernel
theorem dX11_doubleBits_116 : decode cX11_doubleBits 116 = .ok (.dcmp .g, 1) := by decide +kernel
theorem dX11_doubleBits_117 : decode cX11_doubleBits 117 = .ok (.ifCond .ge 12, 3) := by decide +kernel
theorem dX11_doubleBits_120 : decode cX11_doubleBits 120 = .ok (.lload 6, 2) := by decide +kernel
theorem dX11_doubleBits_122 : decode cX11_doubleBits 122 = .ok (.ldc2_w 448, 3) := by decide +kernel
theorem dX11_doubleBits_125 : decode cX11_doubleBits 125 = .ok (.lor, 1) := by decide +kernel
theorem dX11_doubleBits_126 : decode cX11_doubleBits 126 = .ok (.goto 5, 3) := by decide +kernel
theorem dX11_doubleBits_129 : decode cX11_doubleBits 129 = .ok (.lload 6, 2) := by decide +kernel
theorem dX11_doubleBits_131 : decode cX11_doubleBits 131 = .ok (.lreturn, 1) := by decide +kernel
theorem dX12_in_0 : decode cX12_in 0 = .ok (.iload_n 0, 1) := by decide +kernel
theorem dX12_in_1 : decode cX12_in 1 = .ok (.iload_n 1, 1) := by decide +kernel
theorem dX12_in_2 : decode cX12_in 2 = .ok (.if_icmp .lt 12, 3) := by decide +kernel
theorem dX12_in_5 : decode cX12_in 5 = .ok (.iload_n 0, 1) := by decide +kernel
theorem dX12_in_6 : decode cX12_in 6 = .ok (.iload_n 2, 1) := by decide +kernel
theorem dX12_in_7 : decode cX12_in 7 = .ok (.if_icmp .gt 7, 3) := by decide +kernel
theorem dX12_in_10 : decode cX12_in 10 = .ok (.iconst 1, 1) := by decide +kernel
theorem dX12_in_11 : decode cX12_in 11 = .ok (.goto 4, 3) := by decide +kernel
theorem dX12_in_14 : decode cX12_in 14 = .ok (.iconst 0, 1) := by decide +kernel
theorem dX12_in_15 : decode cX12_in 15 = .ok (.ireturn, 1) := by decide +kernel
theorem dX12_has_0 : decode cX12_has 0 = .ok (.iload_n 0, 1) := by decide +kernel
theorem dX12_has_1 : decode cX12_has 1 = .ok (.iload_n 1, 1) := by decide +kernel
theorem dX12_has_2 : decode cX12_has 2 = .ok (.ishr, 1) := by decide +kernel
theorem dX12_has_3 : decode cX12_has 3 = .ok (.iconst 1, 1) := by decide +kernel
theorem dX12_has_4 : decode cX12_has 4 = .ok (.iand, 1) := by decide +kernel
theorem dX12_has_5 : decode cX12_has 5 = .ok (.iconst 1, 1) := by decide +kernel
theorem dX12_has_6 : decode cX12_has 6 = .ok (.if_icmp .ne 7, 3) := by decide +kernel
theorem dX12_has_9 : decode cX12_has 9 = .ok (.iconst 1, 1) := by decide +kernel
theorem dX12_has_10 : decode cX12_has 10 = .ok (.goto 4, 3) := by decide +kernel
theorem dX12_has_13 : decode cX12_has 13 = .ok (.iconst 0, 1) := by decide +kernel
theorem dX12_has_14 : decode cX12_has 14 = .ok (.ireturn, 1) := by decide +kernel
theorem dX12_bits_0 : decode cX12_bits 0 = .ok (.iconst 0, 1) := by decide +kernel
theorem dX12_bits_1 : decode cX12_bits 1 = .ok (.istore_n 1, 1) := by decide +kernel
theorem dX12_bits_2 : decode cX12_bits 2 = .ok (.iconst 0, 1) := by decide +kernel
theorem dX12_bits_3 : decode cX12_bits 3 = .ok (.istore_n 2, 1) := by decide +kernel
theorem dX12_bits_4 : decode cX12_bits 4 = .ok (.iload_n 2, 1) := by decide +kernel
theorem dX12_bits_5 : decode cX12_bits 5 = .ok (.bipush 24, 2) := by decide +kernel
theorem dX12_bits_7 : decode cX12_bits 7 = .ok (.if_icmp .ge 17, 3) := by decide +kernel
theorem dX12_bits_10 : decode cX12_bits 10 = .ok (.iload_n 1, 1) := by decide +kernel
theorem dX12_bits_11 : decode cX12_bits 11 = .ok (.iload_n 0, 1) := by decide +kernel
theorem dX12_bits_12 : decode cX12_bits 12 = .ok (.iload_n 2, 1) := by decide +kernel
theorem dX12_bits_13 : decode cX12_bits 13 = .ok (.ishr, 1) := by decide +kernel
theorem dX12_bits_14 : decode cX12_bits 14 = .ok (.iconst 1, 1) := by decide +kernel
theorem dX12_bits_15 : decode cX12_bits 15 = .ok (.iand, 1) := by decide +kernel
theorem dX12_bits_16 : decode cX12_bits 16 = .ok (.iadd, 1) := by decide +kernel
theorem dX12_bits_17 : decode cX12_bits 17 = .ok (.istore_n 1, 1) := by decide +kernel
theorem dX12_bits_18 : decode cX12_bits 18 = .ok (.iinc 2 1, 3) := by decide +kernel
theorem dX12_bits_21 : decode cX12_bits 21 = .ok (.goto (-17), 3) := by decide +kernel
theorem dX12_bits_24 : decode cX12_bits 24 = .ok (.iload_n 1, 1) := by decide +kernel
theorem dX12_bits_25 : decode cX12_bits 25 = .ok (.ireturn, 1) := by decide +kernel
theorem dX12_init_0 : decode cX12_init 0 = .ok (.aload_n 0, 1) := by decide +kernel
theorem dX12_init_1 : decode cX12_init 1 = .ok (.invokespecial 3, 3) := by decide +kernel
theorem dX12_init_4 : decode cX12_init 4 = .ok (.aload_n 0, 1) := by decide +kernel
theorem dX12_init_5 : decode cX12_init 5 = .ok (.sipush 240, 3) := by decide +kernel
theorem dX12_init_8 : decode cX12_init 8 = .ok (.newarray .int, 2) := by decide +kernel
theorem dX12_init_10 : decode cX12_init 10 = .ok (.putfield 9, 3) := by decide +kernel
theorem dX12_init_13 : decode cX12_init 13 = .ok (.aload_n 0, 1) := by decide +kernel
theorem dX12_init_14 : decode cX12_init 14 = .ok (.iconst 4, 1) := by decide +kernel
theorem dX12_init_15 : decode cX12_init 15 = .ok (.newarray .int, 2) := by decide +kernel
theorem dX12_init_17 : decode cX12_init 17 = .ok (.putfield 13, 3) := by decide +kernel
theorem dX12_init_20 : decode cX12_init 20 = .ok (.aload_n 0, 1) := by decide +kernel
theorem dX12_init_21 : decode cX12_init 21 = .ok (.bipush 50, 2) := by decide +kernel
theorem dX12_init_23 : decode cX12_init 23 = .ok (.newarray .int, 2) := by decide +kernel
theorem dX12_init_25 : decode cX12_init 25 = .ok (.putfield 16, 3) := by decide +kernel
theorem dX12_init_28 : decode cX12_init 28 = .ok (.aload_n 0, 1) := by decide +kernel
theorem dX12_init_29 : decode cX12_init 29 = .ok (.bipush 12, 2) := by decide +kernel
theorem dX12_init_31 : decode cX12_init 31 = .ok (.newarray .int, 2) := by decide +kernel
theorem dX12_init_33 : decode cX12_init 33 = .ok (.putfield 19, 3) := by decide +kernel
theorem dX12_init_36 : decode cX12_init 36 = .ok (.aload_n 0, 1) := by decide +kernel
theorem dX12_init_37 : decode cX12_init 37 = .ok (.iconst 4, 1) := by decide +kernel
theorem dX12_init_38 : decode cX12_init 38 = .ok (.newarray .int, 2) := by decide +kernel
theorem dX12_init_40 : decode cX12_init 40 = .ok (.putfield 22, 3) := by decide +kernel
theorem dX12_init_43 : decode cX12_init 43 = .ok (.aload_n 0, 1) := by decide +kernel
theorem dX12_init_44 : decode cX12_init 44 = .ok (.bipush 50, 2) := by decide +kernel
theorem dX12_init_46 : decode cX12_init 46 = .ok (.newarray .int, 2) := by decide +kernel
theorem dX12_init_48 : decode cX12_init 48 = .ok (.putfield 25, 3) := by decide +kernel
theorem dX12_init_51 : decode cX12_init 51 = .ok (.aload_n 0, 1) := by decide +kernel
theorem dX12_init_52 : decode cX12_init 52 = .ok (.bipush 7, 2) := by decide +kernel
theorem dX12_init_54 : decode cX12_init 54 = .ok (.newarray .int, 2) := by decide +kernel
theorem dX12_init_56 : decode cX12_init 56 = .ok (.putfield 28, 3) := by decide +kernel
theorem dX12_init_59 : decode cX12_init 59 = .ok (.aload_n 0, 1) := by decide +kernel
theorem dX12_init_60 : decode cX12_init 60 = .ok (.sipush 160, 3) := by decide +kernel
theorem dX12_init_63 : decode cX12_init 63 = .ok (.newarray .int, 2) := by decide +kernel
theorem dX12_init_65 : decode cX12_init 65 = .ok (.putfield 31, 3) := by decide +kernel
theorem dX12_init_68 : decode cX12_init 68 = .ok (.aload_n 0, 1) := by decide +kernel
theorem dX12_init_69 : decode cX12_init 69 = .ok (.iconst 5, 1) := by decide +kernel
theorem dX12_init_70 : decode cX12_init 70 = .ok (.newarray .int, 2) := by decide +kernel
theorem dX12_init_72 : decode cX12_init 72 = .ok (.putfield 34, 3) := by decide +kernel
theorem dX12_init_75 : decode cX12_init 75 = .ok (.aload_n 0, 1) := by decide +kernel
theorem dX12_init_76 : decode cX12_init 76 = .ok (.sipush 245, 3) := by decide +kernel
theorem dX12_init_79 : decode cX12_init 79 = .ok (.newarray .int, 2) := by decide +kernel
theorem dX12_init_81 : decode cX12_init 81 = .ok (.putfield 37, 3) := by decide +kernel
theorem dX12_init_84 : decode cX12_init 84 = .ok (.aload_n 0, 1) := by decide +kernel
theorem dX12_init_85 : decode cX12_init 85 = .ok (.iconst 4, 1) := by decide +kernel
theorem dX12_init_86 : decode cX12_init 86 = .ok (.newarray .int, 2) := by decide +kernel
theorem dX12_init_88 : decode cX12_init 88 = .ok (.putfield 40, 3) := by decide +kernel
theorem dX12_init_91 : decode cX12_init 91 = .ok (.aload_n 0, 1) := by decide +kernel
theorem dX12_init_92 : decode cX12_init 92 = .ok (.bipush 10, 2) := by decide +kernel
theorem dX12_init_94 : decode cX12_init 94 = .ok (.newarray .float, 2) := by decide +kernel
theorem dX12_init_96 : decode cX12_init 96 = .ok (.putfield 43, 3) := by decide +kernel
theorem dX12_init_99 : decode cX12_init 99 = .ok (.aload_n 0, 1) := by decide +kernel
theorem dX12_init_100 : decode cX12_init 100 = .ok (.bipush 10, 2) := by decide +kernel
theorem dX12_init_102 : decode cX12_init 102 = .ok (.newarray .int, 2) := by decide +kernel
theorem dX12_init_104 : decode cX12_init 104 = .ok (.putfield 47, 3) := by decide +kernel
theorem dX12_init_107 : decode cX12_init 107 = .ok (.aload_n 0, 1) := by decide +kernel
theorem dX12_init_108 : decode cX12_init 108 = .ok (.sipush 9800, 3) := by decide +kernel
theorem dX12_init_111 : decode cX12_init 111 = .ok (.newarray .int, 2) := by decide +kernel
theorem dX12_init_113 : decode cX12_init 113 = .ok (.putfield 50, 3) := by decide +kernel
theorem dX12_init_116 : decode cX12_init 116 = .ok (.aload_n 0, 1) := by decide +kernel
theorem dX12_init_117 : decode cX12_init 117 = .ok (.bipush 31, 2) := by decide +kernel
theorem dX12_init_119 : decode cX12_init 119 = .ok (.newarray .int, 2) := by decide +kernel
theorem dX12_init_121 : decode cX12_init 121 = .ok (.putfield 53, 3) := by decide +kernel
theorem dX12_init_124 : decode cX12_init 124 = .ok (.aload_n 0, 1) := by decide +kernel
theorem dX12_init_125 : decode cX12_init 125 = .ok (.bipush 48, 2) := by decide +kernel
theorem dX12_init_127 : decode cX12_init 127 = .ok (.newarray .int, 2) := by decide +kernel
theorem dX12_init_129 : decode cX12_init 129 = .ok (.putfield 56, 3) := by decide +kernel
theorem dX12_init_132 : decode cX12_init 132 = .ok (.aload_n 0, 1) := by decide +kernel
theorem dX12_init_133 : decode cX12_init 133 = .ok (.bipush 10, 2) := by decide +kernel
theorem dX12_init_135 : decode cX12_init 135 = .ok (.newarray .int, 2) := by decide +kernel
theorem dX12_init_137 : decode cX12_init 137 = .ok (.putfield 59, 3) := by decide +kernel
theorem dX12_init_140 : decode cX12_init 140 = .ok (.aload_n 0, 1) := by decide +kernel
theorem dX12_init_141 : decode cX12_init 141 = .ok (.sipush 245, 3) := by decide +kernel
theorem dX12_init_144 : decode cX12_init 144 = .ok (.newarray .int, 2) := by decide +kernel
theorem dX12_init_146 : decode cX12_init 146 = .ok (.putfield 62, 3) := by decide +kernel
theorem dX12_init_149 : decode cX12_init 149 = .ok (.return_, 1) := by decide +kernel
theorem dX12_thrown_0 : decode cX12_thrown 0 = .ok (.aload_n 0, 1) := by decide +kernel
theorem dX12_thrown_1 : decode cX12_thrown 1 = .ok (.getfield 65, 3) := by decide +kernel
theorem dX12_thrown_4 : decode cX12_thrown 4 = .ok (.ireturn, 1) := by decide +kernel
theorem dX12_byteOf_0 : decode cX12_byteOf 0 = .ok (.iload 5, 2) := by decide +kernel
theorem dX12_byteOf_2 : decode cX12_byteOf 2 = .ok (.iconst 4, 1) := by decide +kernel
theorem dX12_byteOf_3 : decode cX12_byteOf 3 = .ok (.if_icmp .ge 7, 3) := by decide +kernel
theorem dX12_byteOf_6 : decode cX12_byteOf 6 = .ok (.iload_n 0, 1) := by decide +kernel
theorem dX12_byteOf_7 : decode cX12_byteOf 7 = .ok (.goto 38, 3) := by decide +kernel
theorem dX12_byteOf_10 : decode cX12_byteOf 10 = .ok (.iload 5, 2) := by decide +kernel
theorem dX12_byteOf_12 : decode cX12_byteOf 12 = .ok (.bipush 8, 2) := by decide +kernel
theorem dX12_byteOf_14 : decode cX12_byteOf 14 = .ok (.if_icmp .ge 7, 3) := by decide +kernel
theorem dX12_byteOf_17 : decode cX12_byteOf 17 = .ok (.iload_n 1, 1) := by decide +kernel
theorem dX12_byteOf_18 : decode cX12_byteOf 18 = .ok (.goto 27, 3) := by decide +kernel
theorem dX12_byteOf_21 : decode cX12_byteOf 21 = .ok (.iload 5, 2) := by decide +kernel
theorem dX12_byteOf_23 : decode cX12_byteOf 23 = .ok (.bipush 12, 2) := by decide +kernel
theorem dX12_byteOf_25 : decode cX12_byteOf 25 = .ok (.if_icmp .ge 7, 3) := by decide +kernel
theorem dX12_byteOf_28 : decode cX12_byteOf 28 = .ok (.iload_n 2, 1) := by decide +kernel
theorem dX12_byteOf_29 : decode cX12_byteOf 29 = .ok (.goto 16, 3) := by decide +kernel
theorem dX12_byteOf_32 : decode cX12_byteOf 32 = .ok (.iload 5, 2) := by decide +kernel
theorem dX12_byteOf_34 : decode cX12_byteOf 34 = .ok (.bipush 16, 2) := by decide +kernel
theorem dX12_byteOf_36 : decode cX12_byteOf 36 = .ok (.if_icmp .ge 7, 3) := by decide +kernel
theorem dX12_byteOf_39 : decode cX12_byteOf 39 = .ok (.iload_n 3, 1) := by decide +kernel
theorem dX12_byteOf_40 : decode cX12_byteOf 40 = .ok (.goto 5, 3) := by decide +kernel
theorem dX12_byteOf_43 : decode cX12_byteOf 43 = .ok (.iload 4, 2) := by decide +kernel
theorem dX12_byteOf_45 : decode cX12_byteOf 45 = .ok (.istore 6, 2) := by decide +kernel
theorem dX12_byteOf_47 : decode cX12_byteOf 47 = .ok (.iload 6, 2) := by decide +kernel
theorem dX12_byteOf_49 : decode cX12_byteOf 49 = .ok (.bipush 24, 2) := by decide +kernel
theorem dX12_byteOf_51 : decode cX12_byteOf 51 = .ok (.bipush 8, 2) := by decide +kernel
theorem dX12_byteOf_53 : decode cX12_byteOf 53 = .ok (.iload 5, 2) := by decide +kernel
theorem dX12_byteOf_55 : decode cX12_byteOf 55 = .ok (.iconst 4, 1) := by decide +kernel
theorem dX12_byteOf_56 : decode cX12_byteOf 56 = .ok (.irem, 1) := by decide +kernel
theorem dX12_byteOf_57 : decode cX12_byteOf 57 = .ok (.imul, 1) := by decide +kernel
theorem dX12_byteOf_58 : decode cX12_byteOf 58 = .ok (.isub, 1) := by decide +kernel
theorem dX12_byteOf_59 : decode cX12_byteOf 59 = .ok (.ishr, 1) := by decide +kernel
theorem dX12_byteOf_60 : decode cX12_byteOf 60 = .ok (.sipush 255, 3) := by decide +kernel
theorem dX12_byteOf_63 : decode cX12_byteOf 63 = .ok (.iand, 1) := by decide +kernel
theorem dX12_byteOf_64 : decode cX12_byteOf 64 = .ok (.ireturn, 1) := by decide +kernel
set_option maxRecDepth 20000 in
theorem ggX12_feed_X12_byteOf : GoodIn wsX12_feed wsX12_byteOf := goodIn_r _ [6] (by decide +kernel) (by decide +kernel)
set_option maxRecDepth 20000 in
theorem gX12_feed_X12_byteOf : GoodIn wsX12_feed (va_wsS RX12 69 yX12_byteOf wsX12_byteOf) := goodIn_app (goodIn_of _ (by decide +kernel)) ggX12_feed_X12_byteOf
theorem dX12_feed_0 : decode cX12_feed 0 = .ok (.iconst 0, 1) := by decide +kernel
theorem dX12_feed_1 : decode cX12_feed 1 = .ok (.istore 6, 2) := by decide +kernel
theorem dX12_feed_3 : decode cX12_feed 3 = .ok (.iconst 0, 1) := by decide +kernel
theorem dX12_feed_4 : decode cX12_feed 4 = .ok (.istore 7, 2) := by decide +kernel
theorem dX12_feed_6 : decode cX12_feed 6 = .ok (.iload 7, 2) := by decide +kernel
theorem dX12_feed_8 : decode cX12_feed 8 = .ok (.bipush 20, 2) := by decide +kernel
theorem dX12_feed_10 : decode cX12_feed 10 = .ok (.if_icmp .ge 34, 3) := by decide +kernel
theorem dX12_feed_13 : decode cX12_feed 13 = .ok (.iload 6, 2) := by decide +kernel
theorem dX12_feed_15 : decode cX12_feed 15 = .ok (.iload_n 1, 1) := by decide +kernel
theorem dX12_feed_16 : decode cX12_feed 16 = .ok (.iload_n 2, 1) := by decide +kernel
theorem dX12_feed_17 : decode cX12_feed 17 = .ok (.iload_n 3, 1) := by decide +kernel
theorem dX12_feed_18 : decode cX12_feed 18 = .ok (.iload 4, 2) := by decide +kernel
theorem dX12_feed_20 : decode cX12_feed 20 = .ok (.iload 5, 2) := by decide +kernel
theorem dX12_feed_22 : decode cX12_feed 22 = .ok (.iload 7, 2) := by decide +kernel
theorem dX12_feed_24 : decode cX12_feed 24 = .ok (.invokestatic 69, 3) := by decide +kernel
theorem dX12_feed_27 : decode cX12_feed 27 = .ok (.ifCond .eq 7, 3) := by decide +kernel
theorem dX12_feed_30 : decode cX12_feed 30 = .ok (.iconst 1, 1) := by decide +kernel
theorem dX12_feed_31 : decode cX12_feed 31 = .ok (.goto 4, 3) := by decide +kernel
theorem dX12_feed_34 : decode cX12_feed 34 = .ok (.iconst 0, 1) := by decide +kernel
theorem dX12_feed_35 : decode cX12_feed 35 = .ok (.iadd, 1) := by decide +kernel
theorem dX12_feed_36 : decode cX12_feed 36 = .ok (.istore 6, 2) := by decide +kernel
theorem dX12_feed_38 : decode cX12_feed 38 = .ok (.iinc 7 1, 3) := by decide +kernel
theorem dX12_feed_41 : decode cX12_feed 41 = .ok (.goto (-35), 3) := by decide +kernel
theorem dX12_feed_44 : decode cX12_feed 44 = .ok (.aload_n 0, 1) := by decide +kernel
theorem dX12_feed_45 : decode cX12_feed 45 = .ok (.getfield 73, 3) := by decide +kernel
theorem dX12_feed_48 : decode cX12_feed 48 = .ok (.iload 6, 2) := by decide +kernel
theorem dX12_feed_50 : decode cX12_feed 50 = .ok (.iadd, 1) := by decide +kernel
theorem dX12_feed_51 : decode cX12_feed 51 = .ok (.sipush 240, 3) := by decide +kernel
theorem dX12_feed_54 : decode cX12_feed 54 = .ok (.if_icmp .le 5, 3) := by decide +kernel
theorem dX12_feed_57 : decode cX12_feed 57 = .ok (.iconst (-1), 1) := by decide +kernel
theorem dX12_feed_58 : decode cX12_feed 58 = .ok (.ireturn, 1) := by decide +kernel
theorem dX12_feed_59 : decode cX12_feed 59 = .ok (.iconst 0, 1) := by decide +kernel
theorem dX12_feed_60 : decode cX12_feed 60 = .ok (.istore 7, 2) := by decide +kernel
theorem dX12_feed_62 : decode cX12_feed 62 = .ok (.iload 7, 2) := by decide +kernel
theorem dX12_feed_64 : decode cX12_feed 64 = .ok (.bipush 20, 2) := by decide +kernel
theorem dX12_feed_66 : decode cX12_feed 66 = .ok (.if_icmp .ge 49, 3) := by decide +kernel
theorem dX12_feed_69 : decode cX12_feed 69 = .ok (.iload_n 1, 1) := by decide +kernel
theorem dX12_feed_70 : decode cX12_feed 70 = .ok (.iload_n 2, 1) := by decide +kernel
theorem dX12_feed_71 : decode cX12_feed 71 = .ok (.iload_n 3, 1) := by decide +kernel
theorem dX12_feed_72 : decode cX12_feed 72 = .ok (.iload 4, 2) := by decide +kernel
theorem dX12_feed_74 : decode cX12_feed 74 = .ok (.iload 5, 2) := by decide +kernel
theorem dX12_feed_76 : decode cX12_feed 76 = .ok (.iload 7, 2) := by decide +kernel
theorem dX12_feed_78 : decode cX12_feed 78 = .ok (.invokestatic 69, 3) := by decide +kernel
theorem dX12_feed_81 : decode cX12_feed 81 = .ok (.istore 8, 2) := by decide +kernel
theorem dX12_feed_83 : decode cX12_feed 83 = .ok (.iload 8, 2) := by decide +kernel
theorem dX12_feed_85 : decode cX12_feed 85 = .ok (.ifCond .eq 24, 3) := by decide +kernel
theorem dX12_feed_88 : decode cX12_feed 88 = .ok (.aload_n 0, 1) := by decide +kernel
theorem dX12_feed_89 : decode cX12_feed 89 = .ok (.getfield 9, 3) := by decide +kernel
theorem dX12_feed_92 : decode cX12_feed 92 = .ok (.aload_n 0, 1) := by decide +kernel
theorem dX12_feed_93 : decode cX12_feed 93 = .ok (.getfield 73, 3) := by decide +kernel
theorem dX12_feed_96 : decode cX12_feed 96 = .ok (.iload 8, 2) := by decide +kernel
theorem dX12_feed_98 : decode cX12_feed 98 = .ok (.iastore, 1) := by decide +kernel
theorem dX12_feed_99 : decode cX12_feed 99 = .ok (.aload_n 0, 1) := by decide +kernel
theorem dX12_feed_100 : decode cX12_feed 100 = .ok (.dup, 1) := by decide +kernel
theorem dX12_feed_101 : decode cX12_feed 101 = .ok (.getfield 73, 3) := by decide +kernel
theorem dX12_feed_104 : decode cX12_feed 104 = .ok (.iconst 1, 1) := by decide +kernel
theorem dX12_feed_105 : decode cX12_feed 105 = .ok (.iadd, 1) := by decide +kernel
theorem dX12_feed_106 : decode cX12_feed 106 = .ok (.putfield 73, 3) := by decide +kernel
theorem dX12_feed_109 : decode cX12_feed 109 = .ok (.iinc 7 1, 3) := by decide +kernel
theorem dX12_feed_112 : decode cX12_feed 112 = .ok (.goto (-50), 3) := by decide +kernel
theorem dX12_feed_115 : decode cX12_feed 115 = .ok (.aload_n 0, 1) := by decide +kernel
theorem dX12_feed_116 : decode cX12_feed 116 = .ok (.getfield 73, 3) := by decide +kernel
theorem dX12_feed_119 : decode cX12_feed 119 = .ok (.ireturn, 1) := by decide +kernel
set_option maxRecDepth 20000 in
theorem ggX12_end_X12_in : GoodIn wsX12_end wsX12_in := goodIn_r _ [5] (by decide +kernel) (by decide +kernel)
set_option maxRecDepth 20000 in
theorem gX12_end_X12_in : GoodIn wsX12_end (va_wsS RX12 76 yX12_in wsX12_in) := goodIn_app (goodIn_of _ (by decide +kernel)) ggX12_end_X12_in
theorem dX12_end_0 : decode cX12_end 0 = .ok (.iload_n 1, 1) := by decide +kernel
theorem dX12_end_1 : decode cX12_end 1 = .ok (.iconst 0, 1) := by decide +kernel
theorem dX12_end_2 : decode cX12_end 2 = .ok (.aload_n 0, 1) := by decide +kernel
theorem dX12_end_3 : decode cX12_end 3 = .ok (.getfield 73, 3) := by decide +kernel
theorem dX12_end_6 : decode cX12_end 6 = .ok (.invokestatic 76, 3) := by decide +kernel
theorem dX12_end_9 : decode cX12_end 9 = .ok (.ifCond .ne 5, 3) := by decide +kernel
theorem dX12_end_12 : decode cX12_end 12 = .ok (.iconst 0, 1) := by decide +kernel
theorem dX12_end_13 : decode cX12_end 13 = .ok (.ireturn, 1) := by decide +kernel
theorem dX12_end_14 : decode cX12_end 14 = .ok (.aload_n 0, 1) := by decide +kernel
theorem dX12_end_15 : decode cX12_end 15 = .ok (.iload_n 1, 1) := by decide +kernel
theorem dX12_end_16 : decode cX12_end 16 = .ok (.putfield 73, 3) := by decide +kernel
theorem dX12_end_19 : decode cX12_end 19 = .ok (.iconst 1, 1) := by decide +kernel
theorem dX12_end_20 : decode cX12_end 20 = .ok (.ireturn, 1) := by decide +kernel
theorem dX12_here_0 : decode cX12_here 0 = .ok (.aload_n 0, 1) := by decide +kernel
theorem dX12_here_1 : decode cX12_here 1 = .ok (.getfield 80, 3) := by decide +kernel
theorem dX12_here_4 : decode cX12_here 4 = .ok (.aload_n 0, 1) := by decide +kernel
theorem dX12_here_5 : decode cX12_here 5 = .ok (.getfield 73, 3) := by decide +kernel
theorem dX12_here_8 : decode cX12_here 8 = .ok (.if_icmp .ge 15, 3) := by decide +kernel
theorem dX12_here_11 : decode cX12_here 11 = .ok (.aload_n 0, 1) := by decide +kernel
theorem dX12_here_12 : decode cX12_here 12 = .ok (.getfield 9, 3) := by decide +kernel
theorem dX12_here_15 : decode cX12_here 15 = .ok (.aload_n 0, 1) := by decide +kernel
theorem dX12_here_16 : decode cX12_here 16 = .ok (.getfield 80, 3) := by decide +kernel
theorem dX12_here_19 : decode cX12_here 19 = .ok (.iaload, 1) := by decide +kernel
theorem dX12_here_20 : decode cX12_here 20 = .ok (.goto 4, 3) := by decide +kernel
theorem dX12_here_23 : decode cX12_here 23 = .ok (.iconst (-1), 1) := by decide +kernel
theorem dX12_here_24 : decode cX12_here 24 = .ok (.ireturn, 1) := by decide +kernel
set_option maxRecDepth 20000 in
theorem ggX12_ahead_X12_here : GoodIn wsX12_ahead wsX12_here := goodIn_r _ [6, 1, 7, 8, 9, 10, 11, 12, 13, 14, 15, 16, 17, 18, 19, 20, 21, 22, 23, 24, 25, 26, 27, 28, 29, 30, 31, 32, 33, 34, 35, 36, 37, 38] (by decide +kernel) (by decide +kernel)
set_option maxRecDepth 20000 in
theorem gX12_ahead_X12_here : GoodIn wsX12_ahead (wsV RX12 83 RX12 yX12_here wsX12_here) := goodIn_app (goodIn_of _ (by decide +kernel)) ggX12_ahead_X12_here
theorem dX12_ahead_0 : decode cX12_ahead 0 = .ok (.aload_n 0, 1) := by decide +kernel
theorem dX12_ahead_1 : decode cX12_ahead 1 = .ok (.invokevirtual 83, 3) := by decide +kernel
theorem dX12_ahead_4 : decode cX12_ahead 4 = .ok (.bipush 32, 2) := by decide +kernel
theorem dX12_ahead_6 : decode cX12_ahead 6 = .ok (.if_icmp .ne 16, 3) := by decide +kernel
theorem dX12_ahead_9 : decode cX12_ahead 9 = .ok (.aload_n 0, 1) := by decide +kernel
theorem dX12_ahead_10 : decode cX12_ahead 10 = .ok (.dup, 1) := by decide +kernel
theorem dX12_ahead_11 : decode cX12_ahead 11 = .ok (.getfield 80, 3) := by decide +kernel
theorem dX12_ahead_14 : decode cX12_ahead 14 = .ok (.iconst 1, 1) := by decide +kernel
theorem dX12_ahead_15 : decode cX12_ahead 15 = .ok (.iadd, 1) := by decide +kernel
theorem dX12_ahead_16 : decode cX12_ahead 16 = .ok (.putfield 80, 3) := by decide +kernel
theorem dX12_ahead_19 : decode cX12_ahead 19 = .ok (.goto (-19), 3) := by decide +kernel
theorem dX12_ahead_22 : decode cX12_ahead 22 = .ok (.aload_n 0, 1) := by decide +kernel
theorem dX12_ahead_23 : decode cX12_ahead 23 = .ok (.invokevirtual 83, 3) := by decide +kernel
theorem dX12_ahead_26 : decode cX12_ahead 26 = .ok (.ireturn, 1) := by decide +kernel
theorem dX12_bad_0 : decode cX12_bad 0 = .ok (.aload_n 0, 1) := by decide +kernel
theorem dX12_bad_1 : decode cX12_bad 1 = .ok (.aload_n 0, 1) := by decide +kernel
theorem dX12_bad_2 : decode cX12_bad 2 = .ok (.getfield 87, 3) := by decide +kernel
theorem dX12_bad_5 : decode cX12_bad 5 = .ok (.iconst (-1), 1) := by decide +kernel
theorem dX12_bad_6 : decode cX12_bad 6 = .ok (.if_icmp .ne 10, 3) := by decide +kernel
theorem dX12_bad_9 : decode cX12_bad 9 = .ok (.aload_n 0, 1) := by decide +kernel
theorem dX12_bad_10 : decode cX12_bad 10 = .ok (.getfield 80, 3) := by decide +kernel
theorem dX12_bad_13 : decode cX12_bad 13 = .ok (.goto 7, 3) := by decide +kernel
theorem dX12_bad_16 : decode cX12_bad 16 = .ok (.aload_n 0, 1) := by decide +kernel
theorem dX12_bad_17 : decode cX12_bad 17 = .ok (.getfield 87, 3) := by decide +kernel
theorem dX12_bad_20 : decode cX12_bad 20 = .ok (.putfield 87, 3) := by decide +kernel
theorem dX12_bad_23 : decode cX12_bad 23 = .ok (.return_, 1) := by decide +kernel
theorem dX12_isDigit_0 : decode cX12_isDigit 0 = .ok (.iload_n 0, 1) := by decide +kernel
theorem dX12_isDigit_1 : decode cX12_isDigit 1 = .ok (.bipush 48, 2) := by decide +kernel
theorem dX12_isDigit_3 : decode cX12_isDigit 3 = .ok (.if_icmp .lt 13, 3) := by decide +kernel
theorem dX12_isDigit_6 : decode cX12_isDigit 6 = .ok (.iload_n 0, 1) := by decide +kernel
theorem dX12_isDigit_7 : decode cX12_isDigit 7 = .ok (.bipush 57, 2) := by decide +kernel
theorem dX12_isDigit_9 : decode cX12_isDigit 9 = .ok (.if_icmp .gt 7, 3) := by decide +kernel
theorem dX12_isDigit_12 : decode cX12_isDigit 12 = .ok (.iconst 1, 1) := by decide +kernel
theorem dX12_isDigit_13 : decode cX12_isDigit 13 = .ok (.goto 4, 3) := by decide +kernel
theorem dX12_isDigit_16 : decode cX12_isDigit 16 = .ok (.iconst 0, 1) := by decide +kernel
theorem dX12_isDigit_17 : decode cX12_isDigit 17 = .ok (.ireturn, 1) := by decide +kernel
set_option maxRecDepth 20000 in
theorem ggX12_number_X12_ahead : GoodIn wsX12_number wsX12_ahead := goodIn_r _ [6, 1, 7, 8, 9, 5, 10, 11, 12, 24, 25, 26, 27, 28, 29, 30, 31, 32, 33, 34, 35, 36, 37, 38, 39, 40, 41, 42, 43, 44, 45, 46, 47, 48, 49, 50, 51, 52, 53] (by decide +kernel) (by decide +kernel)
set_option maxRecDepth 20000 in
theorem gX12_number_X12_ahead : GoodIn wsX12_number (wsV RX12 90 RX12 yX12_ahead wsX12_ahead) := goodIn_app (goodIn_of _ (by decide +kernel)) ggX12_number_X12_ahead
set_option maxRecDepth 20000 in
theorem ggX12_number_X12_isDigit : GoodIn wsX12_number wsX12_isDigit := goodIn_r _ [15] (by decide +kernel) (by decide +kernel)
set_option maxRecDepth 20000 in
theorem gX12_number_X12_isDigit : GoodIn wsX12_number (va_wsS RX12 93 yX12_isDigit wsX12_isDigit) := goodIn_app (goodIn_of _ (by decide +kernel)) ggX12_number_X12_isDigit
set_option maxRecDepth 20000 in
theorem ggX12_number_X12_bad : GoodIn wsX12_number wsX12_bad := goodIn_r _ [19, 20, 1, 24, 25, 26, 27, 28, 29, 30, 31, 32, 33, 34, 35, 36, 37, 38, 39, 40, 41, 42, 43, 44, 45, 46, 47, 48, 49, 50, 51, 52, 53] (by decide +kernel) (by decide +kernel)
set_option maxRecDepth 20000 in
theorem gX12_number_X12_bad : GoodIn wsX12_number (wsV RX12 97 RX12 yX12_bad wsX12_bad) := goodIn_app (goodIn_of _ (by decide +kernel)) ggX12_number_X12_bad
set_option maxRecDepth 20000 in
theorem ggX12_number_X12_here : GoodIn wsX12_number wsX12_here := goodIn_r _ [10, 1, 11, 12, 24, 25, 26, 27, 28, 29, 30, 31, 32, 33, 34, 35, 36, 37, 38, 39, 40, 41, 42, 43, 44, 45, 46, 47, 48, 49, 50, 51, 52, 53] (by decide +kernel) (by decide +kernel)
set_option maxRecDepth 20000 in
theorem gX12_number_X12_here : GoodIn wsX12_number (wsV RX12 83 RX12 yX12_here wsX12_here) := goodIn_app (goodIn_of _ (by decide +kernel)) ggX12_number_X12_here
set_option maxRecDepth 20000 in
theorem ggX12_number_X12_in : GoodIn wsX12_number wsX12_in := goodIn_r _ [23] (by decide +kernel) (by decide +kernel)
set_option maxRecDepth 20000 in
theorem gX12_number_X12_in : GoodIn wsX12_number (va_wsS RX12 76 yX12_in wsX12_in) := goodIn_app (goodIn_of _ (by decide +kernel)) ggX12_number_X12_in
theorem dX12_number_0 : decode cX12_number 0 = .ok (.aload_n 0, 1) := by decide +kernel
theorem dX12_number_1 : decode cX12_number 1 = .ok (.invokevirtual 90, 3) := by decide +kernel
theorem dX12_number_4 : decode cX12_number 4 = .ok (.invokestatic 93, 3) := by decide +kernel
theorem dX12_number_7 : decode cX12_number 7 = .ok (.ifCond .ne 9, 3) := by decide +kernel
theorem dX12_number_10 : decode cX12_number 10 = .ok (.aload_n 0, 1) := by decide +kernel
theorem dX12_number_11 : decode cX12_number 11 = .ok (.invokevirtual 97, 3) := by decide +kernel
theorem dX12_number_14 : decode cX12_number 14 = .ok (.iload_n 1, 1) := by decide +kernel
theorem dX12_number_15 : decode cX12_number 15 = .ok (.ireturn, 1) := by decide +kernel
theorem dX12_number_16 : decode cX12_number 16 = .ok (.iconst 0, 1) := by decide +kernel
theorem dX12_number_17 : decode cX12_number 17 = .ok (.istore_n 3, 1) := by decide +kernel
theorem dX12_number_18 : decode cX12_number 18 = .ok (.iconst 0, 1) := by decide +kernel
theorem dX12_number_19 : decode cX12_number 19 = .ok (.istore 4, 2) := by decide +kernel
theorem dX12_number_21 : decode cX12_number 21 = .ok (.iload 4, 2) := by decide +kernel
theorem dX12_number_23 : decode cX12_number 23 = .ok (.iconst 4, 1) := by decide +kernel
theorem dX12_number_24 : decode cX12_number 24 = .ok (.if_icmp .ge 42, 3) := by decide +kernel
theorem dX12_number_27 : decode cX12_number 27 = .ok (.aload_n 0, 1) := by decide +kernel
theorem dX12_number_28 : decode cX12_number 28 = .ok (.invokevirtual 83, 3) := by decide +kernel
theorem dX12_number_31 : decode cX12_number 31 = .ok (.invokestatic 93, 3) := by decide +kernel
theorem dX12_number_34 : decode cX12_number 34 = .ok (.ifCond .eq 32, 3) := by decide +kernel
theorem dX12_number_37 : decode cX12_number 37 = .ok (.bipush 10, 2) := by decide +kernel
theorem dX12_number_39 : decode cX12_number 39 = .ok (.iload_n 3, 1) := by decide +kernel
theorem dX12_number_40 : decode cX12_number 40 = .ok (.imul, 1) := by decide +kernel
theorem dX12_number_41 : decode cX12_number 41 = .ok (.aload_n 0, 1) := by decide +kernel
theorem dX12_number_42 : decode cX12_number 42 = .ok (.invokevirtual 83, 3) := by decide +kernel
theorem dX12_number_45 : decode cX12_number 45 = .ok (.iadd, 1) := by decide +kernel
theorem dX12_number_46 : decode cX12_number 46 = .ok (.bipush 48, 2) := by decide +kernel
theorem dX12_number_48 : decode cX12_number 48 = .ok (.isub, 1) := by decide +kernel
theorem dX12_number_49 : decode cX12_number 49 = .ok (.istore_n 3, 1) := by decide +kernel
theorem dX12_number_50 : decode cX12_number 50 = .ok (.aload_n 0, 1) := by decide +kernel
theorem dX12_number_51 : decode cX12_number 51 = .ok (.dup, 1) := by decide +kernel
theorem dX12_number_52 : decode cX12_number 52 = .ok (.getfield 80, 3) := by decide +kernel
theorem dX12_number_55 : decode cX12_number 55 = .ok (.iconst 1, 1) := by decide +kernel
theorem dX12_number_56 : decode cX12_number 56 = .ok (.iadd, 1) := by decide +kernel
theorem dX12_number_57 : decode cX12_number 57 = .ok (.putfield 80, 3) := by decide +kernel
theorem dX12_number_60 : decode cX12_number 60 = .ok (.iinc 4 1, 3) := by decide +kernel
theorem dX12_number_63 : decode cX12_number 63 = .ok (.goto (-42), 3) := by decide +kernel
theorem dX12_number_66 : decode cX12_number 66 = .ok (.aload_n 0, 1) := by decide +kernel
theorem dX12_number_67 : decode cX12_number 67 = .ok (.invokevirtual 83, 3) := by decide +kernel
theorem dX12_number_70 : decode cX12_number 70 = .ok (.invokestatic 93, 3) := by decide +kernel
theorem dX12_number_73 : decode cX12_number 73 = .ok (.ifCond .eq 10, 3) := by decide +kernel
theorem dX12_number_76 : decode cX12_number 76 = .ok (.aload_n 0, 1) := by decide +kernel
theorem dX12_number_77 : decode cX12_number 77 = .ok (.invokevirtual 97, 3) := by decide +kernel
theorem dX12_number_80 : decode cX12_number 80 = .ok (.goto 26, 3) := by decide +kernel
theorem dX12_number_83 : decode cX12_number 83 = .ok (.iload_n 3, 1) := by decide +kernel
theorem dX12_number_84 : decode cX12_number 84 = .ok (.iload_n 1, 1) := by decide +kernel
theorem dX12_number_85 : decode cX12_number 85 = .ok (.iload_n 2, 1) := by decide +kernel
theorem dX12_number_86 : decode cX12_number 86 = .ok (.invokestatic 76, 3) := by decide +kernel
theorem dX12_number_89 : decode cX12_number 89 = .ok (.ifCond .ne 17, 3) := by decide +kernel
theorem dX12_number_92 : decode cX12_number 92 = .ok (.aload_n 0, 1) := by decide +kernel
theorem dX12_number_93 : decode cX12_number 93 = .ok (.dup, 1) := by decide +kernel
theorem dX12_number_94 : decode cX12_number 94 = .ok (.getfield 80, 3) := by decide +kernel
theorem dX12_number_97 : decode cX12_number 97 = .ok (.iconst 1, 1) := by decide +kernel
theorem dX12_number_98 : decode cX12_number 98 = .ok (.isub, 1) := by decide +kernel
theorem dX12_number_99 : decode cX12_number 99 = .ok (.putfield 80, 3) := by decide +kernel
theorem dX12_number_102 : decode cX12_number 102 = .ok (.aload_n 0, 1) := by decide +kernel
theorem dX12_number_103 : decode cX12_number 103 = .ok (.invokevirtual 97, 3) := by decide +kernel
theorem dX12_number_106 : decode cX12_number 106 = .ok (.iload_n 3, 1) := by decide +kernel
theorem dX12_number_107 : decode cX12_number 107 = .ok (.ireturn, 1) := by decide +kernel
theorem dX12_itemOf_0 : decode cX12_itemOf 0 = .ok (.iload_n 0, 1) := by decide +kernel
theorem dX12_itemOf_1 : decode cX12_itemOf 1 = .ok (.bipush 115, 2) := by decide +kernel
theorem dX12_itemOf_3 : decode cX12_itemOf 3 = .ok (.if_icmp .ne 45, 3) := by decide +kernel
theorem dX12_itemOf_6 : decode cX12_itemOf 6 = .ok (.iload_n 1, 1) := by decide +kernel
theorem dX12_itemOf_7 : decode cX12_itemOf 7 = .ok (.bipush 110, 2) := by decide +kernel
theorem dX12_itemOf_9 : decode cX12_itemOf 9 = .ok (.if_icmp .ne 7, 3) := by decide +kernel
theorem dX12_itemOf_12 : decode cX12_itemOf 12 = .ok (.iconst 0, 1) := by decide +kernel
theorem dX12_itemOf_13 : decode cX12_itemOf 13 = .ok (.goto 34, 3) := by decide +kernel
theorem dX12_itemOf_16 : decode cX12_itemOf 16 = .ok (.iload_n 1, 1) := by decide +kernel
theorem dX12_itemOf_17 : decode cX12_itemOf 17 = .ok (.bipush 102, 2) := by decide +kernel
theorem dX12_itemOf_19 : decode cX12_itemOf 19 = .ok (.if_icmp .ne 7, 3) := by decide +kernel
theorem dX12_itemOf_22 : decode cX12_itemOf 22 = .ok (.iconst 1, 1) := by decide +kernel
theorem dX12_itemOf_23 : decode cX12_itemOf 23 = .ok (.goto 24, 3) := by decide +kernel
theorem dX12_itemOf_26 : decode cX12_itemOf 26 = .ok (.iload_n 1, 1) := by decide +kernel
theorem dX12_itemOf_27 : decode cX12_itemOf 27 = .ok (.bipush 99, 2) := by decide +kernel
theorem dX12_itemOf_29 : decode cX12_itemOf 29 = .ok (.if_icmp .ne 7, 3) := by decide +kernel
theorem dX12_itemOf_32 : decode cX12_itemOf 32 = .ok (.iconst 2, 1) := by decide +kernel
theorem dX12_itemOf_33 : decode cX12_itemOf 33 = .ok (.goto 14, 3) := by decide +kernel
theorem dX12_itemOf_36 : decode cX12_itemOf 36 = .ok (.iload_n 1, 1) := by decide +kernel
theorem dX12_itemOf_37 : decode cX12_itemOf 37 = .ok (.bipush 122, 2) := by decide +kernel
theorem dX12_itemOf_39 : decode cX12_itemOf 39 = .ok (.if_icmp .ne 7, 3) := by decide +kernel
theorem dX12_itemOf_42 : decode cX12_itemOf 42 = .ok (.iconst 3, 1) := by decide +kernel
theorem dX12_itemOf_43 : decode cX12_itemOf 43 = .ok (.goto 4, 3) := by decide +kernel
theorem dX12_itemOf_46 : decode cX12_itemOf 46 = .ok (.iconst (-1), 1) := by decide +kernel
theorem dX12_itemOf_47 : decode cX12_itemOf 47 = .ok (.ireturn, 1) := by decide +kernel
theorem dX12_itemOf_48 : decode cX12_itemOf 48 = .ok (.iload_n 0, 1) := by decide +kernel
theorem dX12_itemOf_49 : decode cX12_itemOf 49 = .ok (.bipush 117, 2) := by decide +kernel
theorem dX12_itemOf_51 : decode cX12_itemOf 51 = .ok (.if_icmp .ne 55, 3) := by decide +kernel
theorem dX12_itemOf_54 : decode cX12_itemOf 54 = .ok (.iload_n 1, 1) := by decide +kernel
theorem dX12_itemOf_55 : decode cX12_itemOf 55 = .ok (.bipush 112, 2) := by decide +kernel
theorem dX12_itemOf_57 : decode cX12_itemOf 57 = .ok (.if_icmp .ne 7, 3) := by decide +kernel
theorem dX12_itemOf_60 : decode cX12_itemOf 60 = .ok (.iconst 0, 1) := by decide +kernel
theorem dX12_itemOf_61 : decode cX12_itemOf 61 = .ok (.goto 44, 3) := by decide +kernel
theorem dX12_itemOf_64 : decode cX12_itemOf 64 = .ok (.iload_n 1, 1) := by decide +kernel
theorem dX12_itemOf_65 : decode cX12_itemOf 65 = .ok (.bipush 103, 2) := by decide +kernel
theorem dX12_itemOf_67 : decode cX12_itemOf 67 = .ok (.if_icmp .ne 7, 3) := by decide +kernel
theorem dX12_itemOf_70 : decode cX12_itemOf 70 = .ok (.iconst 1, 1) := by decide +kernel
theorem dX12_itemOf_71 : decode cX12_itemOf 71 = .ok (.goto 34, 3) := by decide +kernel
theorem dX12_itemOf_74 : decode cX12_itemOf 74 = .ok (.iload_n 1, 1) := by decide +kernel
theorem dX12_itemOf_75 : decode cX12_itemOf 75 = .ok (.bipush 116, 2) := by decide +kernel
theorem dX12_itemOf_77 : decode cX12_itemOf 77 = .ok (.if_icmp .ne 7, 3) := by decide +kernel
theorem dX12_itemOf_80 : decode cX12_itemOf 80 = .ok (.iconst 2, 1) := by decide +kernel
theorem dX12_itemOf_81 : decode cX12_itemOf 81 = .ok (.goto 24, 3) := by decide +kernel
theorem dX12_itemOf_84 : decode cX12_itemOf 84 = .ok (.iload_n 1, 1) := by decide +kernel
theorem dX12_itemOf_85 : decode cX12_itemOf 85 = .ok (.bipush 97, 2) := by decide +kernel
theorem dX12_itemOf_87 : decode cX12_itemOf 87 = .ok (.if_icmp .ne 7, 3) := by decide +kernel
theorem dX12_itemOf_90 : decode cX12_itemOf 90 = .ok (.iconst 3, 1) := by decide +kernel
theorem dX12_itemOf_91 : decode cX12_itemOf 91 = .ok (.goto 14, 3) := by decide +kernel
theorem dX12_itemOf_94 : decode cX12_itemOf 94 = .ok (.iload_n 1, 1) := by decide +kernel
theorem dX12_itemOf_95 : decode cX12_itemOf 95 = .ok (.bipush 98, 2) := by decide +kernel
theorem dX12_itemOf_97 : decode cX12_itemOf 97 = .ok (.if_icmp .ne 7, 3) := by decide +kernel
theorem dX12_itemOf_100 : decode cX12_itemOf 100 = .ok (.iconst 4, 1) := by decide +kernel
theorem dX12_itemOf_101 : decode cX12_itemOf 101 = .ok (.goto 4, 3) := by decide +kernel
theorem dX12_itemOf_104 : decode cX12_itemOf 104 = .ok (.iconst (-1), 1) := by decide +kernel
theorem dX12_itemOf_105 : decode cX12_itemOf 105 = .ok (.ireturn, 1) := by decide +kernel
theorem dX12_itemOf_106 : decode cX12_itemOf 106 = .ok (.iload_n 1, 1) := by decide +kernel
theorem dX12_itemOf_107 : decode cX12_itemOf 107 = .ok (.bipush 107, 2) := by decide +kernel
theorem dX12_itemOf_109 : decode cX12_itemOf 109 = .ok (.if_icmp .ne 7, 3) := by decide +kernel
theorem dX12_itemOf_112 : decode cX12_itemOf 112 = .ok (.iconst 0, 1) := by decide +kernel
theorem dX12_itemOf_113 : decode cX12_itemOf 113 = .ok (.goto 14, 3) := by decide +kernel
theorem dX12_itemOf_116 : decode cX12_itemOf 116 = .ok (.iload_n 1, 1) := by decide +kernel
theorem dX12_itemOf_117 : decode cX12_itemOf 117 = .ok (.bipush 113, 2) := by decide +kernel
theorem dX12_itemOf_119 : decode cX12_itemOf 119 = .ok (.if_icmp .ne 7, 3) := by decide +kernel
theorem dX12_itemOf_122 : decode cX12_itemOf 122 = .ok (.iconst 1, 1) := by decide +kernel
theorem dX12_itemOf_123 : decode cX12_itemOf 123 = .ok (.goto 4, 3) := by decide +kernel
theorem dX12_itemOf_126 : decode cX12_itemOf 126 = .ok (.iconst (-1), 1) := by decide +kernel
theorem dX12_itemOf_127 : decode cX12_itemOf 127 = .ok (.ireturn, 1) := by decide +kernel
theorem dX12_lowest_0 : decode cX12_lowest 0 = .ok (.iload_n 0, 1) := by decide +kernel
theorem dX12_lowest_1 : decode cX12_lowest 1 = .ok (.bipush 115, 2) := by decide +kernel
theorem dX12_lowest_3 : decode cX12_lowest 3 = .ok (.if_icmp .ne 22, 3) := by decide +kernel
theorem dX12_lowest_6 : decode cX12_lowest 6 = .ok (.iload_n 1, 1) := by decide +kernel
theorem dX12_lowest_7 : decode cX12_lowest 7 = .ok (.ifCond .ne 7, 3) := by decide +kernel
theorem dX12_lowest_10 : decode cX12_lowest 10 = .ok (.iconst 2, 1) := by decide +kernel
theorem dX12_lowest_11 : decode cX12_lowest 11 = .ok (.goto 13, 3) := by decide +kernel
theorem dX12_lowest_14 : decode cX12_lowest 14 = .ok (.iload_n 1, 1) := by decide +kernel
theorem dX12_lowest_15 : decode cX12_lowest 15 = .ok (.iconst 1, 1) := by decide +kernel
theorem dX12_lowest_16 : decode cX12_lowest 16 = .ok (.if_icmp .ne 7, 3) := by decide +kernel
theorem dX12_lowest_19 : decode cX12_lowest 19 = .ok (.iconst 1, 1) := by decide +kernel
theorem dX12_lowest_20 : decode cX12_lowest 20 = .ok (.goto 4, 3) := by decide +kernel
theorem dX12_lowest_23 : decode cX12_lowest 23 = .ok (.iconst 0, 1) := by decide +kernel
theorem dX12_lowest_24 : decode cX12_lowest 24 = .ok (.ireturn, 1) := by decide +kernel
theorem dX12_lowest_25 : decode cX12_lowest 25 = .ok (.iload_n 0, 1) := by decide +kernel
theorem dX12_lowest_26 : decode cX12_lowest 26 = .ok (.bipush 117, 2) := by decide +kernel
theorem dX12_lowest_28 : decode cX12_lowest 28 = .ok (.if_icmp .ne 12, 3) := by decide +kernel
theorem dX12_lowest_31 : decode cX12_lowest 31 = .ok (.iload_n 1, 1) := by decide +kernel
theorem dX12_lowest_32 : decode cX12_lowest 32 = .ok (.iconst 1, 1) := by decide +kernel
theorem dX12_lowest_33 : decode cX12_lowest 33 = .ok (.if_icmp .le 7, 3) := by decide +kernel
theorem dX12_lowest_36 : decode cX12_lowest 36 = .ok (.iconst 0, 1) := by decide +kernel
theorem dX12_lowest_37 : decode cX12_lowest 37 = .ok (.goto 4, 3) := by decide +kernel
theorem dX12_lowest_40 : decode cX12_lowest 40 = .ok (.iconst 1, 1) := by decide +kernel
theorem dX12_lowest_41 : decode cX12_lowest 41 = .ok (.ireturn, 1) := by decide +kernel
theorem dX12_highest_0 : decode cX12_highest 0 = .ok (.iload_n 0, 1) := by decide +kernel
theorem dX12_highest_1 : decode cX12_highest 1 = .ok (.bipush 115, 2) := by decide +kernel
theorem dX12_highest_3 : decode cX12_highest 3 = .ok (.if_icmp .ne 24, 3) := by decide +kernel
theorem dX12_highest_6 : decode cX12_highest 6 = .ok (.iload_n 1, 1) := by decide +kernel
theorem dX12_highest_7 : decode cX12_highest 7 = .ok (.ifCond .ne 8, 3) := by decide +kernel
theorem dX12_highest_10 : decode cX12_highest 10 = .ok (.bipush 12, 2) := by decide +kernel
theorem dX12_highest_12 : decode cX12_highest 12 = .ok (.goto 14, 3) := by decide +kernel
theorem dX12_highest_15 : decode cX12_highest 15 = .ok (.iload_n 1, 1) := by decide +kernel
theorem dX12_highest_16 : decode cX12_highest 16 = .ok (.iconst 1, 1) := by decide +kernel
theorem dX12_highest_17 : decode cX12_highest 17 = .ok (.if_icmp .ne 7, 3) := by decide +kernel
theorem dX12_highest_20 : decode cX12_highest 20 = .ok (.iconst 4, 1) := by decide +kernel
theorem dX12_highest_21 : decode cX12_highest 21 = .ok (.goto 5, 3) := by decide +kernel
theorem dX12_highest_24 : decode cX12_highest 24 = .ok (.bipush 99, 2) := by decide +kernel
theorem dX12_highest_26 : decode cX12_highest 26 = .ok (.ireturn, 1) := by decide +kernel
theorem dX12_highest_27 : decode cX12_highest 27 = .ok (.iload_n 0, 1) := by decide +kernel
theorem dX12_highest_28 : decode cX12_highest 28 = .ok (.bipush 117, 2) := by decide +kernel
theorem dX12_highest_30 : decode cX12_highest 30 = .ok (.if_icmp .ne 35, 3) := by decide +kernel
theorem dX12_highest_33 : decode cX12_highest 33 = .ok (.iload_n 1, 1) := by decide +kernel
theorem dX12_highest_34 : decode cX12_highest 34 = .ok (.ifCond .ne 8, 3) := by decide +kernel
theorem dX12_highest_37 : decode cX12_highest 37 = .ok (.bipush 99, 2) := by decide +kernel
theorem dX12_highest_39 : decode cX12_highest 39 = .ok (.goto 25, 3) := by decide +kernel
theorem dX12_highest_42 : decode cX12_highest 42 = .ok (.iload_n 1, 1) := by decide +kernel
theorem dX12_highest_43 : decode cX12_highest 43 = .ok (.iconst 1, 1) := by decide +kernel
theorem dX12_highest_44 : decode cX12_highest 44 = .ok (.if_icmp .ne 8, 3) := by decide +kernel
theorem dX12_highest_47 : decode cX12_highest 47 = .ok (.bipush 9, 2) := by decide +kernel
theorem dX12_highest_49 : decode cX12_highest 49 = .ok (.goto 15, 3) := by decide +kernel
theorem dX12_highest_52 : decode cX12_highest 52 = .ok (.iload_n 1, 1) := by decide +kernel
theorem dX12_highest_53 : decode cX12_highest 53 = .ok (.iconst 2, 1) := by decide +kernel
theorem dX12_highest_54 : decode cX12_highest 54 = .ok (.if_icmp .ne 7, 3) := by decide +kernel
theorem dX12_highest_57 : decode cX12_highest 57 = .ok (.iconst 3, 1) := by decide +kernel
theorem dX12_highest_58 : decode cX12_highest 58 = .ok (.goto 6, 3) := by decide +kernel
theorem dX12_highest_61 : decode cX12_highest 61 = .ok (.sipush 4095, 3) := by decide +kernel
theorem dX12_highest_64 : decode cX12_highest 64 = .ok (.ireturn, 1) := by decide +kernel
theorem dX12_highest_65 : decode cX12_highest 65 = .ok (.iload_n 1, 1) := by decide +kernel
theorem dX12_highest_66 : decode cX12_highest 66 = .ok (.ifCond .ne 8, 3) := by decide +kernel
theorem dX12_highest_69 : decode cX12_highest 69 = .ok (.bipush 6, 2) := by decide +kernel
theorem dX12_highest_71 : decode cX12_highest 71 = .ok (.goto 5, 3) := by decide +kernel
theorem dX12_highest_74 : decode cX12_highest 74 = .ok (.bipush 99, 2) := by decide +kernel
theorem dX12_highest_76 : decode cX12_highest 76 = .ok (.ireturn, 1) := by decide +kernel
theorem dX12_usual_0 : decode cX12_usual 0 = .ok (.iload_n 0, 1) := by decide +kernel
theorem dX12_usual_1 : decode cX12_usual 1 = .ok (.bipush 115, 2) := by decide +kernel
theorem dX12_usual_3 : decode cX12_usual 3 = .ok (.if_icmp .ne 23, 3) := by decide +kernel
theorem dX12_usual_6 : decode cX12_usual 6 = .ok (.iload_n 1, 1) := by decide +kernel
theorem dX12_usual_7 : decode cX12_usual 7 = .ok (.ifCond .ne 8, 3) := by decide +kernel
theorem dX12_usual_10 : decode cX12_usual 10 = .ok (.bipush 8, 2) := by decide +kernel
theorem dX12_usual_12 : decode cX12_usual 12 = .ok (.goto 13, 3) := by decide +kernel
theorem dX12_usual_15 : decode cX12_usual 15 = .ok (.iload_n 1, 1) := by decide +kernel
theorem dX12_usual_16 : decode cX12_usual 16 = .ok (.iconst 1, 1) := by decide +kernel
theorem dX12_usual_17 : decode cX12_usual 17 = .ok (.if_icmp .ne 7, 3) := by decide +kernel
theorem dX12_usual_20 : decode cX12_usual 20 = .ok (.iconst 1, 1) := by decide +kernel
theorem dX12_usual_21 : decode cX12_usual 21 = .ok (.goto 4, 3) := by decide +kernel
theorem dX12_usual_24 : decode cX12_usual 24 = .ok (.iconst 0, 1) := by decide +kernel
theorem dX12_usual_25 : decode cX12_usual 25 = .ok (.ireturn, 1) := by decide +kernel
theorem dX12_usual_26 : decode cX12_usual 26 = .ok (.iload_n 0, 1) := by decide +kernel
theorem dX12_usual_27 : decode cX12_usual 27 = .ok (.bipush 117, 2) := by decide +kernel
theorem dX12_usual_29 : decode cX12_usual 29 = .ok (.if_icmp .ne 23, 3) := by decide +kernel
theorem dX12_usual_32 : decode cX12_usual 32 = .ok (.iload_n 1, 1) := by decide +kernel
theorem dX12_usual_33 : decode cX12_usual 33 = .ok (.ifCond .ne 8, 3) := by decide +kernel
theorem dX12_usual_36 : decode cX12_usual 36 = .ok (.bipush 10, 2) := by decide +kernel
theorem dX12_usual_38 : decode cX12_usual 38 = .ok (.goto 13, 3) := by decide +kernel
theorem dX12_usual_41 : decode cX12_usual 41 = .ok (.iload_n 1, 1) := by decide +kernel
theorem dX12_usual_42 : decode cX12_usual 42 = .ok (.iconst 1, 1) := by decide +kernel
theorem dX12_usual_43 : decode cX12_usual 43 = .ok (.if_icmp .ne 7, 3) := by decide +kernel
theorem dX12_usual_46 : decode cX12_usual 46 = .ok (.iconst 1, 1) := by decide +kernel
theorem dX12_usual_47 : decode cX12_usual 47 = .ok (.goto 4, 3) := by decide +kernel
theorem dX12_usual_50 : decode cX12_usual 50 = .ok (.iconst 0, 1) := by decide +kernel
theorem dX12_usual_51 : decode cX12_usual 51 = .ok (.ireturn, 1) := by decide +kernel
theorem dX12_usual_52 : decode cX12_usual 52 = .ok (.iconst 1, 1) := by decide +kernel
theorem dX12_usual_53 : decode cX12_usual 53 = .ok (.ireturn, 1) := by decide +kernel
set_option maxRecDepth 20000 in
theorem ggX12_items_X12_usual : GoodIn wsX12_items wsX12_usual := goodIn_r _ [6] (by decide +kernel) (by decide +kernel)
set_option maxRecDepth 20000 in
theorem gX12_items_X12_usual : GoodIn wsX12_items (va_wsS RX12 100 yX12_usual wsX12_usual) := goodIn_app (goodIn_of _ (by decide +kernel)) ggX12_items_X12_usual
set_option maxRecDepth 20000 in
theorem ggX12_items_X12_ahead : GoodIn wsX12_items wsX12_ahead := goodIn_r _ [10, 2, 11, 12, 13, 5, 14, 15, 16, 43, 44, 45, 46, 47, 48, 49, 50, 51, 52, 53, 54, 55, 56, 57, 58, 59, 60, 61, 62, 63, 64, 65, 66, 67, 68, 69, 70, 71, 72] (by decide +kernel) (by decide +kernel)
set_option maxRecDepth 20000 in
theorem gX12_items_X12_ahead : GoodIn wsX12_items (wsV RX12 90 RX12 yX12_ahead wsX12_ahead) := goodIn_app (goodIn_of _ (by decide +kernel)) ggX12_items_X12_ahead
set_option maxRecDepth 20000 in
theorem ggX12_items_X12_itemOf : GoodIn wsX12_items wsX12_itemOf := goodIn_r _ [19] (by decide +kernel) (by decide +kernel)
set_option maxRecDepth 20000 in
theorem gX12_items_X12_itemOf : GoodIn wsX12_items (va_wsS RX12 104 yX12_itemOf wsX12_itemOf) := goodIn_app (goodIn_of _ (by decide +kernel)) ggX12_items_X12_itemOf
set_option maxRecDepth 20000 in
theorem ggX12_items_X12_has : GoodIn wsX12_items wsX12_has := goodIn_r _ [22] (by decide +kernel) (by decide +kernel)
set_option maxRecDepth 20000 in
theorem gX12_items_X12_has : GoodIn wsX12_items (va_wsS RX12 107 yX12_has wsX12_has) := goodIn_app (goodIn_of _ (by decide +kernel)) ggX12_items_X12_has
set_option maxRecDepth 20000 in
theorem ggX12_items_X12_lowest : GoodIn wsX12_items wsX12_lowest := goodIn_r _ [25] (by decide +kernel) (by decide +kernel)
set_option maxRecDepth 20000 in
theorem gX12_items_X12_lowest : GoodIn wsX12_items (va_wsS RX12 111 yX12_lowest wsX12_lowest) := goodIn_app (goodIn_of _ (by decide +kernel)) ggX12_items_X12_lowest
set_option maxRecDepth 20000 in
theorem ggX12_items_X12_highest : GoodIn wsX12_items wsX12_highest := goodIn_r _ [28] (by decide +kernel) (by decide +kernel)
set_option maxRecDepth 20000 in
theorem gX12_items_X12_highest : GoodIn wsX12_items (va_wsS RX12 114 yX12_highest wsX12_highest) := goodIn_app (goodIn_of _ (by decide +kernel)) ggX12_items_X12_highest
set_option maxRecDepth 20000 in
theorem ggX12_items_X12_number : GoodIn wsX12_items wsX12_number := goodIn_r _ [32, 2, 7, 8, 9, 5, 10, 11, 12, 13, 14, 15, 16, 33, 34, 35, 36, 37, 38, 39, 1, 40, 41, 42, 43, 44, 45, 46, 47, 48, 49, 50, 51, 52, 53, 54, 55, 56, 57, 58, 59, 60, 61, 62, 63, 64, 65, 66, 67, 68, 69, 70, 71, 72] (by decide +kernel) (by decide +kernel)
set_option maxRecDepth 20000 in
theorem gX12_items_X12_number : GoodIn wsX12_items (wsV RX12 117 RX12 yX12_number wsX12_number) := goodIn_app (goodIn_of _ (by decide +kernel)) ggX12_items_X12_number
theorem dX12_items_0 : decode cX12_items 0 = .ok (.iconst 0, 1) := by decide +kernel
theorem dX12_items_1 : decode cX12_items 1 = .ok (.istore 5, 2) := by decide +kernel
theorem dX12_items_3 : decode cX12_items 3 = .ok (.iload 5, 2) := by decide +kernel
theorem dX12_items_5 : decode cX12_items 5 = .ok (.iload 4, 2) := by decide +kernel
theorem dX12_items_7 : decode cX12_items 7 = .ok (.if_icmp .ge 21, 3) := by decide +kernel
theorem dX12_items_10 : decode cX12_items 10 = .ok (.aload_n 2, 1) := by decide +kernel
theorem dX12_items_11 : decode cX12_items 11 = .ok (.iload_n 3, 1) := by decide +kernel
theorem dX12_items_12 : decode cX12_items 12 = .ok (.iload 5, 2) := by decide +kernel
theorem dX12_items_14 : decode cX12_items 14 = .ok (.iadd, 1) := by decide +kernel
theorem dX12_items_15 : decode cX12_items 15 = .ok (.iload_n 1, 1) := by decide +kernel
theorem dX12_items_16 : decode cX12_items 16 = .ok (.iload 5, 2) := by decide +kernel
theorem dX12_items_18 : decode cX12_items 18 = .ok (.invokestatic 100, 3) := by decide +kernel
theorem dX12_items_21 : decode cX12_items 21 = .ok (.iastore, 1) := by decide +kernel
theorem dX12_items_22 : decode cX12_items 22 = .ok (.iinc 5 1, 3) := by decide +kernel
theorem dX12_items_25 : decode cX12_items 25 = .ok (.goto (-22), 3) := by decide +kernel
theorem dX12_items_28 : decode cX12_items 28 = .ok (.iconst 0, 1) := by decide +kernel
theorem dX12_items_29 : decode cX12_items 29 = .ok (.istore 5, 2) := by decide +kernel
theorem dX12_items_31 : decode cX12_items 31 = .ok (.iload_n 1, 1) := by decide +kernel
