/-! The heap behind both constructors, read as the desk and as the reference. -/
def HX0 : MH := (307, [.inl (3, 0, .inr []), .inr (4, [.int (-9), .int 0, .int (-9), .ref 306, .int (-9), .ref 303, .int 0, .int 0, .int (-1), .int 0, .int 0, .int (-9), .null]), .inl (3, 1, .inr [(0, some 305)]), .inr (4, [.int (-9), .int 15, .int 0, .ref 304, .int (-9), .null, .int 0, .int 0, .int (-1), .int 0, .int 0, .int (-9), .null]), .inl (3, 0, .inr []), .inr (4, [.int (-9), .int 0, .int (-9), .ref 302, .int (-9), .ref 299, .int 0, .int 0, .int (-1), .int 0, .int 0, .int (-9), .null]), .inl (3, 1, .inr [(0, some 301)]), .inr (4, [.int (-9), .int 14, .int (-9), .ref 300, .int (-9), .null, .int 0, .int 0, .int (-1), .int 0, .int 0, .int (-9), .null]), .inl (3, 0, .inr []), .inr (4, [.int (-9), .int 0, .int (-9), .ref 298, .int (-9), .ref 295, .int 0, .int 0, .int (-1), .int 0, .int 0, .int (-9), .null]), .inl (3, 1, .inr [(0, some 297)]), .inr (4, [.int (-9), .int 13, .int (-9), .ref 296, .int (-9), .null, .int 0, .int 0, .int (-1), .int 0, .int 0, .int (-9), .null]), .inl (3, 0, .inr []), .inr (4, [.int (-9), .int 0, .int (-9), .ref 294, .int (-9), .ref 289, .int 1, .int 0, .int (-1), .int 0, .int 0, .int (-9), .null]), .inl (3, 0, .inr []), .inr (4, [.int (-9), .int 0, .int (-9), .ref 292, .int (-9), .ref 289, .int 0, .int 0, .int (-1), .int 0, .int 0, .int (-9), .null]), .inl (3, 2, .inr [(1, some 293), (0, some 291)]), .inr (4, [.int (-9), .int 12, .int (-9), .ref 290, .int (-9), .null, .int 0, .int 0, .int (-1), .int 0, .int 0, .int (-9), .null]), .inl (3, 0, .inr []), .inr (4, [.int (-9), .int 0, .int (-9), .ref 288, .int (-9), .ref 281, .int 2, .int 0, .int (-1), .int 0, .int 0, .int (-9), .null]), .inl (3, 0, .inr []), .inr (4, [.int (-9), .int 0, .int (-9), .ref 286, .int (-9), .ref 281, .int 1, .int 0, .int (-1), .int 0, .int 0, .int (-9), .null]), .inl (3, 0, .inr []), .inr (4, [.int (-9), .int 0, .int (-9), .ref 284, .int (-9), .ref 281, .int 0, .int 0, .int (-1), .int 0, .int 0, .int (-9), .null]), .inl (3, 3, .inr [(2, some 287), (1, some 285), (0, some 283)]), .inr (4, [.int (-9), .int 11, .int (-9), .ref 282, .int (-9), .null, .int 0, .int 0, .int (-1), .int 0, .int 0, .int (-9), .null]), .inl (3, 0, .inr []), .inr (4, [.int (-9), .int 0, .int (-9), .ref 280, .int (-9), .ref 275, .int 1, .int 0, .int (-1), .int 0, .int 0, .int (-9), .null]), .inl (3, 0, .inr []), .inr (4, [.int (-9), .int 0, .int (-9), .ref 278, .int (-9), .ref 275, .int 0, .int 0, .int (-1), .int 0, .int 0, .int (-9), .null]), .inl (3, 2, .inr [(1, some 279), (0, some 277)]), .inr (4, [.int (-9), .int 10, .int (-9), .ref 276, .int 0, .null, .int 0, .int 0, .int (-1), .int 0, .int 0, .int (-9), .null]), .inl (3, 0, .inr []), .inr (4, [.int (-9), .int 0, .int (-9), .ref 274, .int (-9), .ref 269, .int 1, .int 0, .int (-1), .int 0, .int 0, .int (-9), .null]), .inl (3, 0, .inr []), .inr (4, [.int (-9), .int 0, .int (-9), .ref 272, .int (-9), .ref 269, .int 0, .int 0, .int (-1), .int 0, .int 0, .int (-9), .null]), .inl (3, 2, .inr [(1, some 273), (0, some 271)]), .inr (4, [.int (-9), .int 9, .int (-9), .ref 270, .int (-9), .null, .int 0, .int 0, .int (-1), .int 0, .int 0, .int (-9), .null]), .inl (3, 0, .inr []), .inr (4, [.int (-9), .int 0, .int (-9), .ref 268, .int (-9), .ref 265, .int 0, .int 0, .int (-1), .int 0, .int 0, .int (-9), .null]), .inl (3, 1, .inr [(0, some 267)]), .inr (4, [.int (-9), .int 8, .int 0, .ref 266, .int 0, .null, .int 0, .int 0, .int (-1), .int 0, .int 0, .int (-9), .null]), .inl (3, 0, .inr []), .inr (4, [.int (-9), .int 0, .int (-9), .ref 264, .int (-9), .ref 259, .int 1, .int 0, .int (-1), .int 0, .int 0, .int (-9), .null]), .inl (3, 0, .inr []), .inr (4, [.int (-9), .int 0, .int (-9), .ref 262, .int (-9), .ref 259, .int 0, .int 0, .int (-1), .int 0, .int 0, .int (-9), .null]), .inl (3, 2, .inr [(1, some 263), (0, some 261)]), .inr (4, [.int (-9), .int 7, .int (-9), .ref 260, .int (-9), .null, .int 0, .int 0, .int (-1), .int 0, .int 0, .int (-9), .null]), .inl (3, 0, .inr []), .inr (4, [.int (-9), .int 0, .int (-9), .ref 258, .int (-9), .ref 253, .int 1, .int 0, .int (-1), .int 0, .int 0, .int (-9), .null]), .inl (3, 0, .inr []), .inr (4, [.int (-9), .int 0, .int (-9), .ref 256, .int (-9), .ref 253, .int 0, .int 0, .int (-1), .int 0, .int 0, .int (-9), .null]), .inl (3, 2, .inr [(1, some 257), (0, some 255)]), .inr (4, [.int (-9), .int 6, .int (-9), .ref 254, .int (-9), .null, .int 0, .int 0, .int (-1), .int 0, .int 0, .int (-9), .null]), .inl (3, 0, .inr []), .inr (4, [.int (-9), .int 0, .int (-9), .ref 252, .int (-9), .ref 247, .int 1, .int 0, .int (-1), .int 0, .int 0, .int (-9), .null]), .inl (3, 0, .inr []), .inr (4, [.int (-9), .int 0, .int (-9), .ref 250, .int (-9), .ref 247, .int 0, .int 0, .int (-1), .int 0, .int 0, .int (-9), .null]), .inl (3, 2, .inr [(1, some 251), (0, some 249)]), .inr (4, [.int (-9), .int 5, .int (-9), .ref 248, .int (-9), .null, .int 0, .int 0, .int (-1), .int 0, .int 0, .int (-9), .null]), .inl (3, 0, .inr []), .inr (4, [.int (-9), .int 0, .int (-9), .ref 246, .int (-9), .ref 241, .int 1, .int 0, .int (-1), .int 0, .int 0, .int (-9), .null]), .inl (3, 0, .inr []), .inr (4, [.int (-9), .int 0, .int (-9), .ref 244, .int (-9), .ref 241, .int 0, .int 0, .int (-1), .int 0, .int 0, .int (-9), .null]), .inl (3, 2, .inr [(1, some 245), (0, some 243)]), .inr (4, [.int (-9), .int 4, .int (-9), .ref 242, .int (-9), .null, .int 0, .int 0, .int (-1), .int 0, .int 0, .int (-9), .null]), .inl (3, 0, .inr []), .inr (4, [.int (-9), .int 3, .int (-9), .ref 240, .int 0, .null, .int 0, .int 0, .int (-1), .int 0, .int 0, .int (-9), .null]), .inl (3, 0, .inr []), .inr (4, [.int (-9), .int 2, .int (-9), .ref 238, .int 0, .null, .int 0, .int 0, .int (-1), .int 0, .int 0, .int (-9), .null]), .inl (3, 0, .inr []), .inr (4, [.int (-9), .int 1, .int (-9), .ref 236, .int 0, .null, .int 0, .int 0, .int (-1), .int 0, .int 0, .int (-9), .null]), .inl (0, 60, .inl []), .inl (0, 60, .inl []), .inl (0, 60, .inl []), .inl (0, 60, .inl []), .inl (0, 60, .inl []), .inr (1, [.ref 230, .ref 231, .ref 232, .ref 233, .ref 234, .int 0]), .inl (0, 60, .inl []), .inl (0, 60, .inl []), .inl (0, 60, .inl []), .inl (0, 60, .inl []), .inl (0, 60, .inl []), .inr (1, [.ref 224, .ref 225, .ref 226, .ref 227, .ref 228, .int 0]), .inl (0, 60, .inl []), .inl (0, 60, .inl []), .inl (0, 60, .inl []), .inl (0, 60, .inl []), .inl (0, 60, .inl []), .inr (1, [.ref 218, .ref 219, .ref 220, .ref 221, .ref 222, .int 0]), .inl (0, 60, .inl []), .inl (0, 60, .inl []), .inl (0, 60, .inl []), .inl (0, 60, .inl []), .inl (0, 60, .inl []), .inr (1, [.ref 212, .ref 213, .ref 214, .ref 215, .ref 216, .int 0]), .inl (0, 60, .inl []), .inl (0, 60, .inl []), .inl (0, 60, .inl []), .inl (0, 60, .inl []), .inl (0, 60, .inl []), .inr (1, [.ref 206, .ref 207, .ref 208, .ref 209, .ref 210, .int 0]), .inl (0, 60, .inl []), .inl (0, 60, .inl []), .inl (0, 60, .inl []), .inl (0, 60, .inl []), .inl (0, 60, .inl []), .inr (1, [.ref 200, .ref 201, .ref 202, .ref 203, .ref 204, .int 0]), .inl (0, 6, .inl []), .inl (3, 8, .inr []), .inl (0, 42, .inl []), .inl (0, 42, .inl []), .inl (3, 16, .inr [(15, some 303), (14, some 299), (13, some 295), (12, some 289), (11, some 281), (10, some 275), (9, some 269), (8, some 265), (7, some 259), (6, some 253), (5, some 247), (4, some 241), (3, some 239), (2, some 237), (1, some 235)]), .inl (5, 6, .inr [(5, some 229), (4, some 223), (3, some 217), (2, some 211), (1, some 205), (0, some 199)]), .inl (0, 2005, .inl []), .inl (6, 2005, .inr []), .inl (0, 400, .inl []), .inl (6, 400, .inr []), .inr (11, [.ref 189, .int 0, .ref 190, .int 0, .ref 191, .ref 192, .int 0]), .inl (0, 2005, .inl []), .inl (6, 2005, .inr []), .inl (0, 400, .inl []), .inl (6, 400, .inr []), .inr (11, [.ref 184, .int 0, .ref 185, .int 0, .ref 186, .ref 187, .int 0]), .inl (7, 320, .inr []), .inl (6, 620, .inr []), .inr (5, [.ref 181, .ref 182, .int 0, .int 0]), .inl (7, 320, .inr []), .inl (6, 620, .inr []), .inr (5, [.ref 178, .ref 179, .int 0, .int 0]), .inr (10, [.ref 177, .ref 180, .int 0, .int 0, .int (-1), .int (-9), .null]), .inr (2, [.ref 65]), .inl (0, 60, .inl []), .inl (0, 60, .inl []), .inl (3, 60, .inr []), .inl (3, 60, .inr []), .inr (8, [.ref 171, .ref 172, .ref 173, .ref 174, .int 0, .null]), .inl (0, 60, .inl []), .inl (0, 60, .inl []), .inl (3, 60, .inr []), .inl (3, 60, .inr []), .inr (8, [.ref 166, .ref 167, .ref 168, .ref 169, .int 0, .null]), .inl (0, 60, .inl []), .inl (0, 60, .inl []), .inl (3, 60, .inr []), .inl (3, 60, .inr []), .inr (8, [.ref 161, .ref 162, .ref 163, .ref 164, .int 0, .null]), .inl (0, 60, .inl []), .inl (0, 60, .inl []), .inl (3, 60, .inr []), .inl (3, 60, .inr []), .inr (8, [.ref 156, .ref 157, .ref 158, .ref 159, .int 0, .null]), .inl (0, 60, .inl []), .inl (0, 60, .inl []), .inl (3, 60, .inr []), .inl (3, 60, .inr []), .inr (8, [.ref 151, .ref 152, .ref 153, .ref 154, .int 0, .null]), .inl (0, 60, .inl []), .inl (0, 60, .inl []), .inl (3, 60, .inr []), .inl (3, 60, .inr []), .inr (8, [.ref 146, .ref 147, .ref 148, .ref 149, .int 0, .null]), .inl (0, 60, .inl []), .inl (0, 60, .inl []), .inl (3, 60, .inr []), .inl (3, 60, .inr []), .inr (8, [.ref 141, .ref 142, .ref 143, .ref 144, .int 0, .null]), .inl (0, 60, .inl []), .inl (0, 60, .inl []), .inl (3, 60, .inr []), .inl (3, 60, .inr []), .inr (8, [.ref 136, .ref 137, .ref 138, .ref 139, .int 0, .null]), .inl (0, 60, .inl []), .inl (0, 60, .inl []), .inl (3, 60, .inr []), .inl (3, 60, .inr []), .inr (8, [.ref 131, .ref 132, .ref 133, .ref 134, .int 0, .null]), .inl (0, 60, .inl []), .inl (0, 60, .inl []), .inl (3, 60, .inr []), .inl (3, 60, .inr []), .inr (8, [.ref 126, .ref 127, .ref 128, .ref 129, .int 0, .null]), .inl (0, 60, .inl []), .inl (0, 60, .inl []), .inl (3, 60, .inr []), .inl (3, 60, .inr []), .inr (8, [.ref 121, .ref 122, .ref 123, .ref 124, .int 0, .null]), .inl (0, 60, .inl []), .inl (0, 60, .inl []), .inl (3, 60, .inr []), .inl (3, 60, .inr []), .inr (8, [.ref 116, .ref 117, .ref 118, .ref 119, .int 0, .null]), .inl (0, 60, .inl []), .inl (0, 60, .inl []), .inl (3, 60, .inr []), .inl (3, 60, .inr []), .inr (8, [.ref 111, .ref 112, .ref 113, .ref 114, .int 0, .null]), .inl (0, 60, .inl []), .inl (0, 60, .inl []), .inl (3, 60, .inr []), .inl (3, 60, .inr []), .inr (8, [.ref 106, .ref 107, .ref 108, .ref 109, .int 0, .null]), .inl (0, 60, .inl []), .inl (0, 60, .inl []), .inl (3, 60, .inr []), .inl (3, 60, .inr []), .inr (8, [.ref 101, .ref 102, .ref 103, .ref 104, .int 0, .null]), .inl (0, 60, .inl []), .inl (0, 60, .inl []), .inl (3, 60, .inr []), .inl (3, 60, .inr []), .inr (8, [.ref 96, .ref 97, .ref 98, .ref 99, .int 0, .null]), .inl (0, 60, .inl []), .inl (0, 60, .inl []), .inl (3, 60, .inr []), .inl (3, 60, .inr []), .inr (8, [.ref 91, .ref 92, .ref 93, .ref 94, .int 0, .null]), .inl (0, 60, .inl []), .inl (0, 60, .inl []), .inl (3, 60, .inr []), .inl (3, 60, .inr []), .inr (8, [.ref 86, .ref 87, .ref 88, .ref 89, .int 0, .null]), .inl (0, 60, .inl []), .inl (0, 60, .inl []), .inl (3, 60, .inr []), .inl (3, 60, .inr []), .inr (8, [.ref 81, .ref 82, .ref 83, .ref 84, .int 0, .null]), .inl (0, 60, .inl []), .inl (0, 60, .inl []), .inl (3, 60, .inr []), .inl (3, 60, .inr []), .inr (8, [.ref 76, .ref 77, .ref 78, .ref 79, .int 0, .null]), .inl (3, 0, .inr []), .inr (4, [.int 0, .int 0, .int (-9), .ref 74, .int (-9), .null, .int 0, .int 0, .int (-1), .int 0, .int 0, .int (-9), .null]), .inl (4, 20, .inr [(19, some 170), (18, some 165), (17, some 160), (16, some 155), (15, some 150), (14, some 145), (13, some 140), (12, some 135), (11, some 130), (10, some 125), (9, some 120), (8, some 115), (7, some 110), (6, some 105), (5, some 100), (4, some 95), (3, some 90), (2, some 85), (1, some 80), (0, some 75)]), .inl (3, 60, .inr [(0, some 73)]), .inr (7, [.ref 71, .ref 73, .ref 73, .int 1, .int 1, .ref 72, .int 0, .int 0]), .inl (0, 1440, .inl [(2, .int 1), (1, .int 1), (0, .int 1)]), .inl (0, 1440, .inl [(2, .int (-9)), (1, .int (-9)), (0, .int (-9))]), .inl (0, 1440, .inl [(2, .int (-9)), (1, .int (-9)), (0, .int (-9))]), .inl (0, 1440, .inl [(2, .int 2), (1, .int 1), (0, .int 0)]), .inr (3, [.ref 66, .ref 67, .ref 68, .ref 69, .int 3, .int 40]), .inr (0, [.ref 65, .ref 70, .ref 175, .ref 176, .ref 183, .ref 188, .ref 193, .ref 194, .ref 195, .ref 196, .ref 197, .ref 198, .int 0, .int 0, .int 0, .int 0])])
def HM0 : MH := (353, [.inl (0, 8, .inl []), .inl (0, 12, .inl []), .inl (0, 400, .inl []), .inl (1, 400, .inl []), .inl (0, 80, .inl []), .inl (0, 80, .inl []), .inl (0, 33280, .inl []), .inl (2, 2600, .inl []), .inl (0, 2600, .inl []), .inl (0, 2600, .inl []), .inl (0, 2600, .inl []), .inl (0, 2600, .inl []), .inl (0, 2600, .inl []), .inl (0, 64, .inl []), .inl (0, 64, .inl []), .inl (0, 3004, .inl []), .inl (0, 360, .inl []), .inl (0, 360, .inl []), .inl (0, 360, .inl []), .inl (0, 6, .inl []), .inl (2, 80, .inl []), .inl (0, 240, .inl []), .inl (0, 80, .inl []), .inl (0, 80, .inl []), .inl (0, 4800, .inl []), .inl (0, 1600, .inl []), .inl (0, 1600, .inl []), .inl (0, 20, .inl []), .inl (0, 20, .inl []), .inl (1, 64, .inl []), .inl (0, 3004, .inl []), .inl (0, 3004, .inl []), .inl (0, 3004, .inl []), .inl (0, 80, .inl []), .inl (0, 9012, .inl []), .inl (0, 3004, .inl [(0, .int (-9))]), .inl (0, 3004, .inl [(0, .int (-9))]), .inl (0, 3004, .inl [(0, .int (-9))]), .inl (0, 3004, .inl [(0, .int (-9))]), .inl (0, 3004, .inl [(0, .int 0)]), .inl (0, 6000, .inl [(2, .int 1), (1, .int 1), (0, .int 1)]), .inl (0, 6000, .inl [(2, .int (-9)), (1, .int (-9)), (0, .int (-9))]), .inl (0, 6000, .inl [(2, .int (-9)), (1, .int (-9)), (0, .int (-9))]), .inl (0, 6000, .inl [(2, .int 2), (1, .int 1), (0, .int 0)]), .inl (0, 6, .inl []), .inr (12, [.int 0, .ref 308, .int 3, .int 40, .ref 309, .ref 310, .ref 311, .ref 312, .int 1, .ref 313, .ref 314, .ref 315, .ref 316, .ref 317, .ref 318, .int 0, .int 0, .ref 319, .int 0, .ref 320, .ref 321, .ref 322, .ref 323, .int 0, .int 0, .ref 324, .ref 325, .ref 326, .ref 327, .ref 328, .int 0, .int 0, .ref 329, .ref 330, .ref 331, .int 0, .ref 332, .ref 333, .ref 334, .ref 335, .ref 336, .int 0, .ref 337, .ref 338, .ref 339, .int 0, .ref 340, .ref 341, .ref 342, .ref 343, .ref 344, .ref 345, .int 0, .ref 346, .int 0, .int 0, .int 0, .int 0, .int 0, .int 0, .int (-9), .int (-9), .int 0, .int 0, .ref 347, .ref 348, .ref 349, .int 0, .ref 350, .int 0, .ref 351, .int 0, .ref 352, .int 0]), .inl (3, 0, .inr []), .inr (4, [.int (-9), .int 0, .int (-9), .ref 306, .int (-9), .ref 303, .int 0, .int 0, .int (-1), .int 0, .int 0, .int (-9), .null]), .inl (3, 1, .inr [(0, some 305)]), .inr (4, [.int (-9), .int 15, .int 0, .ref 304, .int (-9), .null, .int 0, .int 0, .int (-1), .int 0, .int 0, .int (-9), .null]), .inl (3, 0, .inr []), .inr (4, [.int (-9), .int 0, .int (-9), .ref 302, .int (-9), .ref 299, .int 0, .int 0, .int (-1), .int 0, .int 0, .int (-9), .null]), .inl (3, 1, .inr [(0, some 301)]), .inr (4, [.int (-9), .int 14, .int (-9), .ref 300, .int (-9), .null, .int 0, .int 0, .int (-1), .int 0, .int 0, .int (-9), .null]), .inl (3, 0, .inr []), .inr (4, [.int (-9), .int 0, .int (-9), .ref 298, .int (-9), .ref 295, .int 0, .int 0, .int (-1), .int 0, .int 0, .int (-9), .null]), .inl (3, 1, .inr [(0, some 297)]), .inr (4, [.int (-9), .int 13, .int (-9), .ref 296, .int (-9), .null, .int 0, .int 0, .int (-1), .int 0, .int 0, .int (-9), .null]), .inl (3, 0, .inr []), .inr (4, [.int (-9), .int 0, .int (-9), .ref 294, .int (-9), .ref 289, .int 1, .int 0, .int (-1), .int 0, .int 0, .int (-9), .null]), .inl (3, 0, .inr []), .inr (4, [.int (-9), .int 0, .int (-9), .ref 292, .int (-9), .ref 289, .int 0, .int 0, .int (-1), .int 0, .int 0, .int (-9), .null]), .inl (3, 2, .inr [(1, some 293), (0, some 291)]), .inr (4, [.int (-9), .int 12, .int (-9), .ref 290, .int (-9), .null, .int 0, .int 0, .int (-1), .int 0, .int 0, .int (-9), .null]), .inl (3, 0, .inr []), .inr (4, [.int (-9), .int 0, .int (-9), .ref 288, .int (-9), .ref 281, .int 2, .int 0, .int (-1), .int 0, .int 0, .int (-9), .null]), .inl (3, 0, .inr []), .inr (4, [.int (-9), .int 0, .int (-9), .ref 286, .int (-9), .ref 281, .int 1, .int 0, .int (-1), .int 0, .int 0, .int (-9), .null]), .inl (3, 0, .inr []), .inr (4, [.int (-9), .int 0, .int (-9), .ref 284, .int (-9), .ref 281, .int 0, .int 0, .int (-1), .int 0, .int 0, .int (-9), .null]), .inl (3, 3, .inr [(2, some 287), (1, some 285), (0, some 283)]), .inr (4, [.int (-9), .int 11, .int (-9), .ref 282, .int (-9), .null, .int 0, .int 0, .int (-1), .int 0, .int 0, .int (-9), .null]), .inl (3, 0, .inr []), .inr (4, [.int (-9), .int 0, .int (-9), .ref 280, .int (-9), .ref 275, .int 1, .int 0, .int (-1), .int 0, .int 0, .int (-9), .null]), .inl (3, 0, .inr []), .inr (4, [.int (-9), .int 0, .int (-9), .ref 278, .int (-9), .ref 275, .int 0, .int 0, .int (-1), .int 0, .int 0, .int (-9), .null]), .inl (3, 2, .inr [(1, some 279), (0, some 277)]), .inr (4, [.int (-9), .int 10, .int (-9), .ref 276, .int 0, .null, .int 0, .int 0, .int (-1), .int 0, .int 0, .int (-9), .null]), .inl (3, 0, .inr []), .inr (4, [.int (-9), .int 0, .int (-9), .ref 274, .int (-9), .ref 269, .int 1, .int 0, .int (-1), .int 0, .int 0, .int (-9), .null]), .inl (3, 0, .inr []), .inr (4, [.int (-9), .int 0, .int (-9), .ref 272, .int (-9), .ref 269, .int 0, .int 0, .int (-1), .int 0, .int 0, .int (-9), .null]), .inl (3, 2, .inr [(1, some 273), (0, some 271)]), .inr (4, [.int (-9), .int 9, .int (-9), .ref 270, .int (-9), .null, .int 0, .int 0, .int (-1), .int 0, .int 0, .int (-9), .null]), .inl (3, 0, .inr []), .inr (4, [.int (-9), .int 0, .int (-9), .ref 268, .int (-9), .ref 265, .int 0, .int 0, .int (-1), .int 0, .int 0, .int (-9), .null]), .inl (3, 1, .inr [(0, some 267)]), .inr (4, [.int (-9), .int 8, .int 0, .ref 266, .int 0, .null, .int 0, .int 0, .int (-1), .int 0, .int 0, .int (-9), .null]), .inl (3, 0, .inr []), .inr (4, [.int (-9), .int 0, .int (-9), .ref 264, .int (-9), .ref 259, .int 1, .int 0, .int (-1), .int 0, .int 0, .int (-9), .null]), .inl (3, 0, .inr []), .inr (4, [.int (-9), .int 0, .int (-9), .ref 262, .int (-9), .ref 259, .int 0, .int 0, .int (-1), .int 0, .int 0, .int (-9), .null]), .inl (3, 2, .inr [(1, some 263), (0, some 261)]), .inr (4, [.int (-9), .int 7, .int (-9), .ref 260, .int (-9), .null, .int 0, .int 0, .int (-1), .int 0, .int 0, .int (-9), .null]), .inl (3, 0, .inr []), .inr (4, [.int (-9), .int 0, .int (-9), .ref 258, .int (-9), .ref 253, .int 1, .int 0, .int (-1), .int 0, .int 0, .int (-9), .null]), .inl (3, 0, .inr []), .inr (4, [.int (-9), .int 0, .int (-9), .ref 256, .int (-9), .ref 253, .int 0, .int 0, .int (-1), .int 0, .int 0, .int (-9), .null]), .inl (3, 2, .inr [(1, some 257), (0, some 255)]), .inr (4, [.int (-9), .int 6, .int (-9), .ref 254, .int (-9), .null, .int 0, .int 0, .int (-1), .int 0, .int 0, .int (-9), .null]), .inl (3, 0, .inr []), .inr (4, [.int (-9), .int 0, .int (-9), .ref 252, .int (-9), .ref 247, .int 1, .int 0, .int (-1), .int 0, .int 0, .int (-9), .null]), .inl (3, 0, .inr []), .inr (4, [.int (-9), .int 0, .int (-9), .ref 250, .int (-9), .ref 247, .int 0, .int 0, .int (-1), .int 0, .int 0, .int (-9), .null]), .inl (3, 2, .inr [(1, some 251), (0, some 249)]), .inr (4, [.int (-9), .int 5, .int (-9), .ref 248, .int (-9), .null, .int 0, .int 0, .int (-1), .int 0, .int 0, .int (-9), .null]), .inl (3, 0, .inr []), .inr (4, [.int (-9), .int 0, .int (-9), .ref 246, .int (-9), .ref 241, .int 1, .int 0, .int (-1), .int 0, .int 0, .int (-9), .null]), .inl (3, 0, .inr []), .inr (4, [.int (-9), .int 0, .int (-9), .ref 244, .int (-9), .ref 241, .int 0, .int 0, .int (-1), .int 0, .int 0, .int (-9), .null]), .inl (3, 2, .inr [(1, some 245), (0, some 243)]), .inr (4, [.int (-9), .int 4, .int (-9), .ref 242, .int (-9), .null, .int 0, .int 0, .int (-1), .int 0, .int 0, .int (-9), .null]), .inl (3, 0, .inr []), .inr (4, [.int (-9), .int 3, .int (-9), .ref 240, .int 0, .null, .int 0, .int 0, .int (-1), .int 0, .int 0, .int (-9), .null]), .inl (3, 0, .inr []), .inr (4, [.int (-9), .int 2, .int (-9), .ref 238, .int 0, .null, .int 0, .int 0, .int (-1), .int 0, .int 0, .int (-9), .null]), .inl (3, 0, .inr []), .inr (4, [.int (-9), .int 1, .int (-9), .ref 236, .int 0, .null, .int 0, .int 0, .int (-1), .int 0, .int 0, .int (-9), .null]), .inl (0, 60, .inl []), .inl (0, 60, .inl []), .inl (0, 60, .inl []), .inl (0, 60, .inl []), .inl (0, 60, .inl []), .inr (1, [.ref 230, .ref 231, .ref 232, .ref 233, .ref 234, .int 0]), .inl (0, 60, .inl []), .inl (0, 60, .inl []), .inl (0, 60, .inl []), .inl (0, 60, .inl []), .inl (0, 60, .inl []), .inr (1, [.ref 224, .ref 225, .ref 226, .ref 227, .ref 228, .int 0]), .inl (0, 60, .inl []), .inl (0, 60, .inl []), .inl (0, 60, .inl []), .inl (0, 60, .inl []), .inl (0, 60, .inl []), .inr (1, [.ref 218, .ref 219, .ref 220, .ref 221, .ref 222, .int 0]), .inl (0, 60, .inl []), .inl (0, 60, .inl []), .inl (0, 60, .inl []), .inl (0, 60, .inl []), .inl (0, 60, .inl []), .inr (1, [.ref 212, .ref 213, .ref 214, .ref 215, .ref 216, .int 0]), .inl (0, 60, .inl []), .inl (0, 60, .inl []), .inl (0, 60, .inl []), .inl (0, 60, .inl []), .inl (0, 60, .inl []), .inr (1, [.ref 206, .ref 207, .ref 208, .ref 209, .ref 210, .int 0]), .inl (0, 60, .inl []), .inl (0, 60, .inl []), .inl (0, 60, .inl []), .inl (0, 60, .inl []), .inl (0, 60, .inl []), .inr (1, [.ref 200, .ref 201, .ref 202, .ref 203, .ref 204, .int 0]), .inl (0, 6, .inl []), .inl (3, 8, .inr []), .inl (0, 42, .inl []), .inl (0, 42, .inl []), .inl (3, 16, .inr [(15, some 303), (14, some 299), (13, some 295), (12, some 289), (11, some 281), (10, some 275), (9, some 269), (8, some 265), (7, some 259), (6, some 253), (5, some 247), (4, some 241), (3, some 239), (2, some 237), (1, some 235)]), .inl (5, 6, .inr [(5, some 229), (4, some 223), (3, some 217), (2, some 211), (1, some 205), (0, some 199)]), .inl (0, 2005, .inl []), .inl (6, 2005, .inr []), .inl (0, 400, .inl []), .inl (6, 400, .inr []), .inr (11, [.ref 189, .int 0, .ref 190, .int 0, .ref 191, .ref 192, .int 0]), .inl (0, 2005, .inl []), .inl (6, 2005, .inr []), .inl (0, 400, .inl []), .inl (6, 400, .inr []), .inr (11, [.ref 184, .int 0, .ref 185, .int 0, .ref 186, .ref 187, .int 0]), .inl (7, 320, .inr []), .inl (6, 620, .inr []), .inr (5, [.ref 181, .ref 182, .int 0, .int 0]), .inl (7, 320, .inr []), .inl (6, 620, .inr []), .inr (5, [.ref 178, .ref 179, .int 0, .int 0]), .inr (10, [.ref 177, .ref 180, .int 0, .int 0, .int (-1), .int (-9), .null]), .inr (2, [.ref 65]), .inl (0, 60, .inl []), .inl (0, 60, .inl []), .inl (3, 60, .inr []), .inl (3, 60, .inr []), .inr (8, [.ref 171, .ref 172, .ref 173, .ref 174, .int 0, .null]), .inl (0, 60, .inl []), .inl (0, 60, .inl []), .inl (3, 60, .inr []), .inl (3, 60, .inr []), .inr (8, [.ref 166, .ref 167, .ref 168, .ref 169, .int 0, .null]), .inl (0, 60, .inl []), .inl (0, 60, .inl []), .inl (3, 60, .inr []), .inl (3, 60, .inr []), .inr (8, [.ref 161, .ref 162, .ref 163, .ref 164, .int 0, .null]), .inl (0, 60, .inl []), .inl (0, 60, .inl []), .inl (3, 60, .inr []), .inl (3, 60, .inr []), .inr (8, [.ref 156, .ref 157, .ref 158, .ref 159, .int 0, .null]), .inl (0, 60, .inl []), .inl (0, 60, .inl []), .inl (3, 60, .inr []), .inl (3, 60, .inr []), .inr (8, [.ref 151, .ref 152, .ref 153, .ref 154, .int 0, .null]), .inl (0, 60, .inl []), .inl (0, 60, .inl []), .inl (3, 60, .inr []), .inl (3, 60, .inr []), .inr (8, [.ref 146, .ref 147, .ref 148, .ref 149, .int 0, .null]), .inl (0, 60, .inl []), .inl (0, 60, .inl []), .inl (3, 60, .inr []), .inl (3, 60, .inr []), .inr (8, [.ref 141, .ref 142, .ref 143, .ref 144, .int 0, .null]), .inl (0, 60, .inl []), .inl (0, 60, .inl []), .inl (3, 60, .inr []), .inl (3, 60, .inr []), .inr (8, [.ref 136, .ref 137, .ref 138, .ref 139, .int 0, .null]), .inl (0, 60, .inl []), .inl (0, 60, .inl []), .inl (3, 60, .inr []), .inl (3, 60, .inr []), .inr (8, [.ref 131, .ref 132, .ref 133, .ref 134, .int 0, .null]), .inl (0, 60, .inl []), .inl (0, 60, .inl []), .inl (3, 60, .inr []), .inl (3, 60, .inr []), .inr (8, [.ref 126, .ref 127, .ref 128, .ref 129, .int 0, .null]), .inl (0, 60, .inl []), .inl (0, 60, .inl []), .inl (3, 60, .inr []), .inl (3, 60, .inr []), .inr (8, [.ref 121, .ref 122, .ref 123, .ref 124, .int 0, .null]), .inl (0, 60, .inl []), .inl (0, 60, .inl []), .inl (3, 60, .inr []), .inl (3, 60, .inr []), .inr (8, [.ref 116, .ref 117, .ref 118, .ref 119, .int 0, .null]), .inl (0, 60, .inl []), .inl (0, 60, .inl []), .inl (3, 60, .inr []), .inl (3, 60, .inr []), .inr (8, [.ref 111, .ref 112, .ref 113, .ref 114, .int 0, .null]), .inl (0, 60, .inl []), .inl (0, 60, .inl []), .inl (3, 60, .inr []), .inl (3, 60, .inr []), .inr (8, [.ref 106, .ref 107, .ref 108, .ref 109, .int 0, .null]), .inl (0, 60, .inl []), .inl (0, 60, .inl []), .inl (3, 60, .inr []), .inl (3, 60, .inr []), .inr (8, [.ref 101, .ref 102, .ref 103, .ref 104, .int 0, .null]), .inl (0, 60, .inl []), .inl (0, 60, .inl []), .inl (3, 60, .inr []), .inl (3, 60, .inr []), .inr (8, [.ref 96, .ref 97, .ref 98, .ref 99, .int 0, .null]), .inl (0, 60, .inl []), .inl (0, 60, .inl []), .inl (3, 60, .inr []), .inl (3, 60, .inr []), .inr (8, [.ref 91, .ref 92, .ref 93, .ref 94, .int 0, .null]), .inl (0, 60, .inl []), .inl (0, 60, .inl []), .inl (3, 60, .inr []), .inl (3, 60, .inr []), .inr (8, [.ref 86, .ref 87, .ref 88, .ref 89, .int 0, .null]), .inl (0, 60, .inl []), .inl (0, 60, .inl []), .inl (3, 60, .inr []), .inl (3, 60, .inr []), .inr (8, [.ref 81, .ref 82, .ref 83, .ref 84, .int 0, .null]), .inl (0, 60, .inl []), .inl (0, 60, .inl []), .inl (3, 60, .inr []), .inl (3, 60, .inr []), .inr (8, [.ref 76, .ref 77, .ref 78, .ref 79, .int 0, .null]), .inl (3, 0, .inr []), .inr (4, [.int 0, .int 0, .int (-9), .ref 74, .int (-9), .null, .int 0, .int 0, .int (-1), .int 0, .int 0, .int (-9), .null]), .inl (4, 20, .inr [(19, some 170), (18, some 165), (17, some 160), (16, some 155), (15, some 150), (14, some 145), (13, some 140), (12, some 135), (11, some 130), (10, some 125), (9, some 120), (8, some 115), (7, some 110), (6, some 105), (5, some 100), (4, some 95), (3, some 90), (2, some 85), (1, some 80), (0, some 75)]), .inl (3, 60, .inr [(0, some 73)]), .inr (7, [.ref 71, .ref 73, .ref 73, .int 1, .int 1, .ref 72, .int 0, .int 0]), .inl (0, 1440, .inl [(2, .int 1), (1, .int 1), (0, .int 1)]), .inl (0, 1440, .inl [(2, .int (-9)), (1, .int (-9)), (0, .int (-9))]), .inl (0, 1440, .inl [(2, .int (-9)), (1, .int (-9)), (0, .int (-9))]), .inl (0, 1440, .inl [(2, .int 2), (1, .int 1), (0, .int 0)]), .inr (3, [.ref 66, .ref 67, .ref 68, .ref 69, .int 3, .int 40]), .inr (0, [.ref 65, .ref 70, .ref 175, .ref 176, .ref 183, .ref 188, .ref 193, .ref 194, .ref 195, .ref 196, .ref 197, .ref 198, .int 0, .int 0, .int 0, .int 0])])
def fldI (H : MH) (a y : Nat) : Int := match mget H a with
  | some (.inr (_, fs)) => match fs[y]? with
    | some (.int z) => z.toInt
    | _ => 0
  | _ => 0
def fldR (H : MH) (a y : Nat) : Nat := match mget H a with
  | some (.inr (_, fs)) => match fs[y]? with
    | some (.ref b) => b
    | _ => 2
  | _ => 2
def rowI (H : MH) (a : Nat) (i : Int) : Int := match mget H a with
  | some (.inl (_, _, .inl l)) => match rdI l i.toNat with
    | .int z => z.toInt
    | _ => 0
  | _ => 0
def rowR (H : MH) (a : Nat) (i : Int) : Nat := match mget H a with
  | some (.inl (_, _, .inr l)) => match rdQ l i.toNat with
    | some b => b
    | none => 2
  | _ => 2
def kndH (H : MH) (a : Nat) : Nat := if 307 ≤ a ∧ a < 353 then 0 else match mget H a with
  | some (.inr (ci, _)) => ci + 1
  | some (.inl (t, _, _)) => 100 + t
  | none => 0
def lenH (H : MH) (a : Nat) : Int := match mget H a with
  | some (.inl (_, n, _)) => n
  | _ => 0
def c00 : SC := (fldI HM0, fldR HM0, rowI HM0, rowR HM0, kndH HM0, lenH HM0, 353, 144644)
def s00 : SM := (fldI HM0 307, fun y j => match mfl[y]? with
  | some (some (a, _, _)) => rowI HM0 a j
  | _ => 0)
def isV0 (v : Value) : Bool := match v with
  | .int _ => true
  | _ => false
def isR0 (v : Value) : Bool := match v with
  | .ref b => !(b == 2)
  | .null => true
  | _ => false
def okF (ci : Nat) : Nat → List Value → Bool
  | _, [] => true
  | y, v :: r => (if isRf ci y then isR0 v else isV0 v) && okF ci (y + 1) r
/-- an entry is as its kind has it -/
def okE (e : ME) : Bool := match e with
  | .inr (ci, fs) => decide (ci ≤ 12) && (ci == 12 || (fs.length == nfl ci && okF ci 0 fs))
  | .inl (t, n, .inl l) => decide (t < 3) && (decide (n ≤ 67108864) && l.all (fun q => isV0 q.2))
  | .inl (t, n, .inr l) => decide (3 ≤ t) && (decide (n ≤ 67108864) && l.all (fun q => !(q.2 == some 2)))
theorem okE_all : HM0.2.all okE = true := by decide +kernel
theorem okF_at {ci : Nat} : ∀ {fs : List Value} {y : Nat}, okF ci y fs = true → ∀ k v, fs[k]? = some v → (if isRf ci (y + k) then isR0 v else isV0 v) = true := by
  intro fs
  induction fs with
  | nil => intro y h k v hk; simp at hk
  | cons w r ih =>
    intro y h k v hk
    have h : ((if isRf ci y then isR0 w else isV0 w) && okF ci (y + 1) r) = true := h
    rw [Bool.and_eq_true] at h
    cases k with
    | zero =>
      simp at hk
      rw [← hk]
      exact h.1
    | succ k =>
      simp at hk
      have := ih h.2 k v hk
      rw [show y + (k + 1) = y + 1 + k by omega]
      exact this
theorem rdI_ok {l : List (Nat × Value)} (h : l.all (fun q => isV0 q.2) = true) (j : Nat) : ∃ z : Int32, rdI l j = .int z := by
  induction l with
  | nil => exact ⟨0, rfl⟩
  | cons q r ih =>
    obtain ⟨k, v⟩ := q
    rw [List.all_cons, Bool.and_eq_true] at h
    show ∃ z : Int32, (if j = k then v else rdI r j) = .int z
    by_cases e : j = k
    · rw [if_pos e]
      have h1 : isV0 v = true := h.1
      cases v with
      | int z => exact ⟨z, rfl⟩
      | _ => cases h1
    · rw [if_neg e]
      exact ih h.2
theorem rdQ_ok {l : List (Nat × Option Nat)} (h : l.all (fun q => !(q.2 == some 2)) = true) (j : Nat) : rdQ l j ≠ some 2 := by
  induction l with
  | nil => intro q; cases q
  | cons q r ih =>
    obtain ⟨k, v⟩ := q
    rw [List.all_cons, Bool.and_eq_true] at h
    show (if j = k then v else rdQ r j) ≠ some 2
    by_cases e : j = k
    · rw [if_pos e]
      have h1 := h.1
      simpa using h1
    · rw [if_neg e]
      exact ih h.2
theorem i32_ok (z : Int32) : Int32.ofInt z.toInt = z ∧ inR z.toInt := ⟨Int32.ofInt_toInt z, by
  have h1 := Int32.le_toInt z
  have h2 := Int32.toInt_lt z
  unfold inR
  omega⟩
theorem H0_mem {a : Nat} {e : ME} (h : mget HM0 a = some e) : okE e = true ∧ 64 ≤ a ∧ a < 353 := by
  unfold mget at h
  by_cases g : a < HM0.1
  · rw [if_pos g] at h
    have h1 := List.all_eq_true.mp okE_all e (List.mem_of_getElem? h)
    have h2 := (List.getElem?_eq_some_iff.mp h).1
    have h3 : HM0.2.length = 289 := by decide +kernel
    have h4 : HM0.1 = 353 := rfl
    exact ⟨h1, by omega, by omega⟩
  · rw [if_neg g] at h
    cases h
theorem repC0 : RepC HM0 c00 HM0 := by
  refine ⟨⟨by decide +kernel, rfl⟩, fun a ha => ?_, fun _ _ _ => rfl, fun a ci ha hc => ?_, fun a t ha ht => ?_⟩
  · have ha : kndH HM0 a ≠ 0 := ha
    unfold kndH at ha
    by_cases g : 307 ≤ a ∧ a < 353
    · rw [if_pos g] at ha; exact absurd rfl ha
    · rw [if_neg g] at ha
      cases e : mget HM0 a with
      | none => rw [e] at ha; exact absurd rfl ha
      | some w =>
        have := (H0_mem e).2
        exact ⟨this.1, this.2, g⟩
  · have ha : kndH HM0 a = ci + 1 := ha
    unfold kndH at ha
    by_cases g : 307 ≤ a ∧ a < 353
    · rw [if_pos g] at ha; omega
    · rw [if_neg g] at ha
      cases e : mget HM0 a with
      | none => rw [e] at ha; exact absurd (show 0 = ci + 1 from ha) (by omega)
      | some w =>
        rw [e] at ha
        have ok := (H0_mem e).1
        rcases w with ⟨t, n, l⟩ | ⟨ci', fs⟩
        · have ha : 100 + t = ci + 1 := ha
          exfalso
          omega
        · have ha : ci' + 1 = ci + 1 := ha
          obtain rfl : ci' = ci := by omega
          have ok : (decide (ci' ≤ 12) && (ci' == 12 || (fs.length == nfl ci' && okF ci' 0 fs))) = true := ok
          simp only [Bool.or_eq_true, Bool.and_eq_true, beq_iff_eq, decide_eq_true_eq] at ok
          obtain ⟨ok1, ok2⟩ := ok.2.resolve_left (by omega)
          refine ⟨fs, e, ok1, fun y hy => ?_⟩
          have hg : fs[y]? = some (fs[y]'(by omega)) := List.getElem?_eq_getElem (by omega)
          have hk := okF_at ok2 y _ hg
          rw [Nat.zero_add] at hk
          have eI : fI c00 a y = fldI HM0 a y := rfl
          have eR : fR c00 a y = fldR HM0 a y := rfl
          rw [eI, eR]
          unfold fldI fldR
          rw [e]
          dsimp only
          rw [hg]
          generalize fs[y]'(by omega) = v at hk
          refine ⟨fun h => ?_, fun h => ?_⟩
          · rw [h, if_pos rfl] at hk
            cases v with
            | ref b =>
              have hb : b ≠ 2 := by
                intro q
                rw [q] at hk
                cases hk
              show some (Value.ref b) = some (emb (vr b))
              rw [emb_r hb]
            | null => rfl
            | _ => cases hk
          · rw [h] at hk
            cases v with
            | int z =>
              show some (Value.int z) = some (Value.int (Int32.ofInt z.toInt)) ∧ inR z.toInt
              rw [(i32_ok z).1]
              exact ⟨rfl, (i32_ok z).2⟩
            | _ => cases hk
  · have ha : kndH HM0 a = 100 + t := ha
    unfold kndH at ha
    by_cases g : 307 ≤ a ∧ a < 353
    · rw [if_pos g] at ha; omega
    · rw [if_neg g] at ha
      cases e : mget HM0 a with
      | none => rw [e] at ha; exact absurd (show 0 = 100 + t from ha) (by omega)
      | some w =>
        rw [e] at ha
        have ok := (H0_mem e).1
        have eL : le c00 a = lenH HM0 a := rfl
        have eA : ∀ i, aI c00 a i = rowI HM0 a i := fun _ => rfl
        have eB : ∀ i, aR c00 a i = rowR HM0 a i := fun _ => rfl
        unfold arR
        rw [eL]
        rcases w with ⟨t', n, l⟩ | ⟨ci', fs⟩
        · have ha : 100 + t' = 100 + t := ha
          obtain rfl : t' = t := by omega
          have e1 : lenH HM0 a = n := by unfold lenH; rw [e]
          rw [e1]
          rcases l with l | l
          · have ok : (decide (t' < 3) && (decide (n ≤ 67108864) && l.all (fun q => isV0 q.2))) = true := ok
            simp only [Bool.and_eq_true, decide_eq_true_eq] at ok
            obtain ⟨o1, o2, o3⟩ := ok
            refine ⟨by omega, by omega, fun _ => ⟨l, e, fun j _ => ?_⟩, fun q => by omega⟩
            obtain ⟨z, hz⟩ := rdI_ok o3 j
            have e2 : aI c00 a j = z.toInt := by
              rw [eA]
              unfold rowI
              rw [e]
              dsimp only
              rw [show ((j : Nat) : Int).toNat = j from Int.toNat_natCast j, hz]
            rw [e2, hz, (i32_ok z).1]
            exact ⟨rfl, (i32_ok z).2⟩
          · have ok : (decide (3 ≤ t') && (decide (n ≤ 67108864) && l.all (fun q => !(q.2 == some 2)))) = true := ok
            simp only [Bool.and_eq_true, decide_eq_true_eq] at ok
            obtain ⟨o1, o2, o3⟩ := ok
            refine ⟨by omega, by omega, fun q => by omega, fun _ => ⟨l, e, fun j _ => ?_⟩⟩
            rw [eB]
            unfold rowR
            rw [e]
            dsimp only
            rw [show ((j : Nat) : Int).toNat = j from Int.toNat_natCast j]
            have h2 := rdQ_ok o3 j
            cases hq : rdQ l j with
            | none => rfl
            | some b =>
              show some b = rfq b
              unfold rfq
              rw [if_neg (fun q => h2 (by rw [hq, q]))]
        · have ha : ci' + 1 = 100 + t := ha
          have ok : (decide (ci' ≤ 12) && (ci' == 12 || (fs.length == nfl ci' && okF ci' 0 fs))) = true := ok
          rw [Bool.and_eq_true, decide_eq_true_eq] at ok
          exfalso
          have := ok.1
          omega
theorem repM0 : RepM HM0 s00 HM0 := by
  have hf : ∃ fs, mget HM0 307 = some (.inr (12, fs)) ∧ fs.length = 74 ∧ (List.range 74).all (fun y => match mfl[y]?, fs[y]? with
    | some none, some v => isV0 v
    | some (some (a, _, _)), some v => decide (v = .ref a)
    | _, _ => false) = true := by
    have : (match mget HM0 307 with
      | some (.inr (12, fs)) => decide (fs.length = 74) && (List.range 74).all (fun y => match mfl[y]?, fs[y]? with
        | some none, some v => isV0 v
        | some (some (a, _, _)), some v => decide (v = .ref a)
        | _, _ => false)
      | _ => false) = true := by decide +kernel
    split at this
    · rename_i fs h
      rw [Bool.and_eq_true, decide_eq_true_eq] at this
      exact ⟨fs, h, this.1, this.2⟩
    · cases this
  obtain ⟨fs, h1, h2, h3⟩ := hf
  refine ⟨⟨by decide +kernel, rfl⟩, fun _ _ => rfl, ⟨fs, h1, h2, fun y => ?_⟩, fun y a t n hy => ?_⟩
  · unfold mfS
    by_cases hl : y < 74
    · have h4 := List.all_eq_true.mp h3 y (List.mem_range.mpr hl)
      have hg : fs[y]? = some (fs[y]'(by omega)) := List.getElem?_eq_getElem (by omega)
      have e1 : s00.1 y = fldI HM0 307 y := rfl
      rw [e1]
      unfold fldI
      rw [h1]
      dsimp only
      rw [hg] at h4 ⊢
      generalize fs[y]'(by omega) = v at h4
      cases e : mfl[y]? with
      | none => trivial
      | some q =>
        rw [e] at h4
        cases q with
        | none =>
          have h4 : isV0 v = true := h4
          cases v with
          | int z =>
            show some (Value.int z) = some (Value.int (Int32.ofInt z.toInt)) ∧ inR z.toInt
            rw [(i32_ok z).1]
            exact ⟨rfl, (i32_ok z).2⟩
          | _ => cases h4
        | some q =>
          obtain ⟨a, t, n⟩ := q
          have h4 : decide (v = .ref a) = true := h4
          show some v = some (.ref a)
          rw [of_decide_eq_true h4]
    · have : mfl[y]? = none := List.getElem?_eq_none (by have : mfl.length = 74 := by decide +kernel
                                                         omega)
      rw [this]
      trivial
  · have hc : mfl.all (fun q => match q with
      | some (a, t, n) => match mget HM0 a with
        | some (.inl (t', n', .inl l)) => decide (t' = t) && (decide (n' = n) && l.all (fun q => isV0 q.2))
        | _ => false
      | none => true) = true := by decide +kernel
    have h4 := List.all_eq_true.mp hc _ (List.mem_of_getElem? hy)
    have h4 : (match mget HM0 a with
        | some (.inl (t', n', .inl l)) => decide (t' = t) && (decide (n' = n) && l.all (fun q => isV0 q.2))
        | _ => false) = true := h4
    split at h4
    · rename_i t' n' l h
      simp only [Bool.and_eq_true, decide_eq_true_eq] at h4
      obtain ⟨rfl, rfl, h5⟩ := h4
      refine ⟨l, h, fun j _ => ?_⟩
      obtain ⟨z, hz⟩ := rdI_ok h5 j
      have e2 : s00.2 y j = z.toInt := by
        show (match mfl[y]? with
          | some (some (a, _, _)) => rowI HM0 a j
          | _ => 0) = z.toInt
        rw [hy]
        show rowI HM0 a j = z.toInt
        unfold rowI
        rw [h]
        dsimp only
        rw [show ((j : Nat) : Int).toNat = j from Int.toNat_natCast j, hz]
      rw [e2, hz, (i32_ok z).1]
      exact ⟨rfl, (i32_ok z).2⟩
    · cases h4
