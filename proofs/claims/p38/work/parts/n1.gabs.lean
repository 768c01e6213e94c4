section
/-! The heap behind both constructors, read as the desk and as the reference. -/
def HX0 : MH := (307, [.inl (3, 0, .inr []), .inr (4, [.int (-9), .int 0, .int (-9), .ref 306, .int (-9), .ref 303, .int 0, .int 0, .int (-1), .int 0, .int 0, .int (-9), .null]), .inl (3, 1, .inr [(0, some 305)]), .inr (4, [.int (-9), .int 15, .int 0, .ref 304, .int (-9), .null, .int 0, .int 0, .int (-1), .int 0, .int 0, .int (-9), .null]), .inl (3, 0, .inr []), .inr (4, [.int (-9), .int 0, .int (-9), .ref 302, .int (-9), .ref 299, .int 0, .int 0, .int (-1), .int 0, .int 0, .int (-9), .null]), .inl (3, 1, .inr [(0, some 301)]), .inr (4, [.int (-9), .int 14, .int (-9), .ref 300, .int (-9), .null, .int 0, .int 0, .int (-1), .int 0, .int 0, .int (-9), .null]), .inl (3, 0, .inr []), .inr (4, [.int (-9), .int 0, .int (-9), .ref 298, .int (-9), .ref 295, .int 0, .int 0, .int (-1), .int 0, .int 0, .int (-9), .null]), .inl (3, 1, .inr [(0, some 297)]), .inr (4, [.int (-9), .int 13, .int (-9), .ref 296, .int (-9), .null, .int 0, .int 0, .int (-1), .int 0, .int 0, .int (-9), .null]), .inl (3, 0, .inr []), .inr (4, [.int (-9), .int 0, .int (-9), .ref 294, .int (-9), .ref 289, .int 1, .int 0, .int (-1), .int 0, .int 0, .int (-9), .null]), .inl (3, 0, .inr []), .inr (4, [.int (-9), .int 0, .int (-9), .ref 292, .int (-9), .ref 289, .int 0, .int 0, .int (-1), .int 0, .int 0, .int (-9), .null]), .inl (3, 2, .inr [(1, some 293), (0, some 291)]), .inr (4, [.int (-9), .int 12, .int (-9), .ref 290, .int (-9), .null, .int 0, .int 0, .int (-1), .int 0, .int 0, .int (-9), .null]), .inl (3, 0, .inr []), .inr (4, [.int (-9), .int 0, .int (-9), .ref 288, .int (-9), .ref 281, .int 2, .int 0, .int (-1), .int 0, .int 0, .int (-9), .null]), .inl (3, 0, .inr []), .inr (4, [.int (-9), .int 0, .int (-9), .ref 286, .int (-9), .ref 281, .int 1, .int 0, .int (-1), .int 0, .int 0, .int (-9), .null]), .inl (3, 0, .inr []), .inr (4, [.int (-9), .int 0, .int (-9), .ref 284, .int (-9), .ref 281, .int 0, .int 0, .int (-1), .int 0, .int 0, .int (-9), .null]), .inl (3, 3, .inr [(2, some 287), (1, some 285), (0, some 283)]), .inr (4, [.int (-9), .int 11, .int (-9), .ref 282, .int (-9), .null, .int 0, .int 0, .int (-1), .int 0, .int 0, .int (-9), .null]), .inl (3, 0, .inr []), .inr (4, [.int (-9), .int 0, .int (-9), .ref 280, .int (-9), .ref 275, .int 1, .int 0, .int (-1), .int 0, .int 0, .int (-9), .null]), .inl (3, 0, .inr []), .inr (4, [.int (-9), .int 0, .int (-9), .ref 278, .int (-9), .ref 275, .int 0, .int 0, .int (-1), .int 0, .int 0, .int (-9), .null]), .inl (3, 2, .inr [(1, some 279), (0, some 277)]), .inr (4, [.int (-9), .int 10, .int (-9), .ref 276, .int 0, .null, .int 0, .int 0, .int (-1), .int 0, .int 0, .int (-9), .null]), .inl (3, 0, .inr []), .inr (4, [.int (-9), .int 0, .int (-9), .ref 274, .int (-9), .ref 269, .int 1, .int 0, .int (-1), .int 0, .int 0, .int (-9), .null]), .inl (3, 0, .inr []), .inr (4, [.int (-9), .int 0, .int (-9), .ref 272, .int (-9), .ref 269, .int 0, .int 0, .int (-1), .int 0, .int 0, .int (-9), .null]), .inl (3, 2, .inr [(1, some 273), (0, some 271)]), .inr (4, [.int (-9), .int 9, .int (-9), .ref 270, .int (-9), .null, .int 0, .int 0, .int (-1), .int 0, .int 0, .int (-9), .null]), .inl (3, 0, .inr []), .inr (4, [.int (-9), .int 0, .int (-9), .ref 268, .int (-9), .ref 265, .int 0, .int 0, .int (-1), .int 0, .int 0, .int (-9), .null]), .inl (3, 1, .inr [(0, some 267)]), .inr (4, [.int (-9), .int 8, .int 0, .ref 266, .int 0, .null, .int 0, .int 0, .int (-1), .int 0, .int 0, .int (-9), .null]), .inl (3, 0, .inr []), .inr (4, [.int (-9), .int 0, .int (-9), .ref 264, .int (-9), .ref 259, .int 1, .int 0, .int (-1), .int 0, .int 0, .int (-9), .null]), .inl (3, 0, .inr []), .inr (4, [.int (-9), .int 0, .int (-9), .ref 262, .int (-9), .ref 259, .int 0, .int 0, .int (-1), .int 0, .int 0, .int (-9), .null]), .inl (3, 2, .inr [(1, some 263), (0, some 261)]), .inr (4, [.int (-9), .int 7, .int (-9), .ref 260, .int (-9), .null, .int 0, .int 0, .int (-1), .int 0, .int 0, .int (-9), .null]), .inl (3, 0, .inr []), .inr (4, [.int (-9), .int 0, .int (-9), .ref 258, .int (-9), .ref 253, .int 1, .int 0, .int (-1), .int 0, .int 0, .int (-9), .null]), .inl (3, 0, .inr []), .inr (4, [.int (-9), .int 0, .int (-9), .ref 256, .int (-9), .ref 253, .int 0, .int 0, .int (-1), .int 0, .int 0, .int (-9), .null]), .inl (3, 2, .inr [(1, some 257), (0, some 255)]), .inr (4, [.int (-9), .int 6, .int (-9), .ref 254, .int (-9), .null, .int 0, .int 0, .int (-1), .int 0, .int 0, .int (-9), .null]), .inl (3, 0, .inr []), .inr (4, [.int (-9), .int 0, .int (-9), .ref 252, .int (-9), .ref 247, .int 1, .int 0, .int (-1), .int 0, .int 0, .int (-9), .null]), .inl (3, 0, .inr []), .inr (4, [.int (-9), .int 0, .int (-9), .ref 250, .int (-9), .ref 247, .int 0, .int 0, .int (-1), .int 0, .int 0, .int (-9), .null]), .inl (3, 2, .inr [(1, some 251), (0, some 249)]), .inr (4, [.int (-9), .int 5, .int (-9), .ref 248, .int (-9), .null, .int 0, .int 0, .int (-1), .int 0, .int 0, .int (-9), .null]), .inl (3, 0, .inr []), .inr (4, [.int (-9), .int 0, .int (-9), .ref 246, .int (-9), .ref 241, .int 1, .int 0, .int (-1), .int 0, .int 0, .int (-9), .null]), .inl (3, 0, .inr []), .inr (4, [.int (-9), .int 0, .int (-9), .ref 244, .int (-9), .ref 241, .int 0, .int 0, .int (-1), .int 0, .int 0, .int (-9), .null]), .inl (3, 2, .inr [(1, some 245), (0, some 243)]), .inr (4, [.int (-9), .int 4, .int (-9), .ref 242, .int (-9), .null, .int 0, .int 0, .int (-1), .int 0, .int 0, .int (-9), .null]), .inl (3, 0, .inr []), .inr (4, [.int (-9), .int 3, .int (-9), .ref 240, .int 0, .null, .int 0, .int 0, .int (-1), .int 0, .int 0, .int (-9), .null]), .inl (3, 0, .inr []), .inr (4, [.int (-9), .int 2, .int (-9), .ref 238, .int 0, .null, .int 0, .int 0, .int (-1), .int 0, .int 0, .int (-9), .null]), .inl (3, 0, .inr []), .inr (4, [.int (-9), .int 1, .int (-9), .ref 236, .int 0, .null, .int 0, .int 0, .int (-1), .int 0, .int 0, .int (-9), .null]), .inl (0, 60, .inl []), .inl (0, 60, .inl []), .inl (0, 60, .inl []), .inl (0, 60, .inl []), .inl (0, 60, .inl []), .inr (1, [.ref 230, .ref 231, .ref 232, .ref 233, .ref 234, .int 0]), .inl (0, 60, .inl []), .inl (0, 60, .inl []), .inl (0, 60, .inl []), .inl (0, 60, .inl []), .inl (0, 60, .inl []), .inr (1, [.ref 224, .ref 225, .ref 226, .ref 227, .ref 228, .int 0]), .inl (0, 60, .inl []), .inl (0, 60, .inl []), .inl (0, 60, .inl []), .inl (0, 60, .inl []), .inl (0, 60, .inl []), .inr (1, [.ref 218, .ref 219, .ref 220, .ref 221, .ref 222, .int 0]), .inl (0, 60, .inl []), .inl (0, 60, .inl []), .inl (0, 60, .inl []), .inl (0, 60, .inl []), .inl (0, 60, .inl []), .inr (1, [.ref 212, .ref 213, .ref 214, .ref 215, .ref 216, .int 0]), .inl (0, 60, .inl []), .inl (0, 60, .inl []), .inl (0, 60, .inl []), .inl (0, 60, .inl []), .inl (0, 60, .inl []), .inr (1, [.ref 206, .ref 207, .ref 208, .ref 209, .ref 210, .int 0]), .inl (0, 60, .inl []), .inl (0, 60, .inl []), .inl (0, 60, .inl []), .inl (0, 60, .inl []), .inl (0, 60, .inl []), .inr (1, [.ref 200, .ref 201, .ref 202, .ref 203, .ref 204, .int 0]), .inl (0, 6, .inl []), .inl (3, 8, .inr []), .inl (0, 42, .inl []), .inl (0, 42, .inl []), .inl (3, 16, .inr [(15, some 303), (14, some 299), (13, some 295), (12, some 289), (11, some 281), (10, some 275), (9, some 269), (8, some 265), (7, some 259), (6, some 253), (5, some 247), (4, some 241), (3, some 239), (2, some 237), (1, some 235)]), .inl (5, 6, .inr [(5, some 229), (4, some 223), (3, some 217), (2, some 211), (1, some 205), (0, some 199)]), .inl (0, 2005, .inl []), .inl (6, 2005, .inr []), .inl (0, 400, .inl []), .inl (6, 400, .inr []), .inr (11, [.ref 189, .int 0, .ref 190, .int 0, .ref 191, .ref 192, .int 0]), .inl (0, 2005, .inl []), .inl (6, 2005, .inr []), .inl (0, 400, .inl []), .inl (6, 400, .inr []), .inr (11, [.ref 184, .int 0, .ref 185, .int 0, .ref 186, .ref 187, .int 0]), .inl (7, 320, .inr []), .inl (6, 620, .inr []), .inr (5, [.ref 181, .ref 182, .int 0, .int 0]), .inl (7, 320, .inr []), .inl (6, 620, .inr []), .inr (5, [.ref 178, .ref 179, .int 0, .int 0]), .inr (10, [.ref 177, .ref 180, .int 0, .int 0, .int (-1), .int (-9), .null]), .inr (2, [.ref 65]), .inl (0, 60, .inl []), .inl (0, 60, .inl []), .inl (3, 60, .inr []), .inl (3, 60, .inr []), .inr (8, [.ref 171, .ref 172, .ref 173, .ref 174, .int 0, .null]), .inl (0, 60, .inl []), .inl (0, 60, .inl []), .inl (3, 60, .inr []), .inl (3, 60, .inr []), .inr (8, [.ref 166, .ref 167, .ref 168, .ref 169, .int 0, .null]), .inl (0, 60, .inl []), .inl (0, 60, .inl []), .inl (3, 60, .inr []), .inl (3, 60, .inr []), .inr (8, [.ref 161, .ref 162, .ref 163, .ref 164, .int 0, .null]), .inl (0, 60, .inl []), .inl (0, 60, .inl []), .inl (3, 60, .inr []), .inl (3, 60, .inr []), .inr (8, [.ref 156, .ref 157, .ref 158, .ref 159, .int 0, .null]), .inl (0, 60, .inl []), .inl (0, 60, .inl []), .inl (3, 60, .inr []), .inl (3, 60, .inr []), .inr (8, [.ref 151, .ref 152, .ref 153, .ref 154, .int 0, .null]), .inl (0, 60, .inl []), .inl (0, 60, .inl []), .inl (3, 60, .inr []), .inl (3, 60, .inr []), .inr (8, [.ref 146, .ref 147, .ref 148, .ref 149, .int 0, .null]), .inl (0, 60, .inl []), .inl (0, 60, .inl []), .inl (3, 60, .inr []), .inl (3, 60, .inr []), .inr (8, [.ref 141, .ref 142, .ref 143, .ref 144, .int 0, .null]), .inl (0, 60, .inl []), .inl (0, 60, .inl []), .inl (3, 60, .inr []), .inl (3, 60, .inr []), .inr (8, [.ref 136, .ref 137, .ref 138, .ref 139, .int 0, .null]), .inl (0, 60, .inl []), .inl (0, 60, .inl []), .inl (3, 60, .inr []), .inl (3, 60, .inr []), .inr (8, [.ref 131, .ref 132, .ref 133, .ref 134, .int 0, .null]), .inl (0, 60, .inl []), .inl (0, 60, .inl []), .inl (3, 60, .inr []), .inl (3, 60, .inr []), .inr (8, [.ref 126, .ref 127, .ref 128, .ref 129, .int 0, .null]), .inl (0, 60, .inl []), .inl (0, 60, .inl []), .inl (3, 60, .inr []), .inl (3, 60, .inr []), .inr (8, [.ref 121, .ref 122, .ref 123, .ref 124, .int 0, .null]), .inl (0, 60, .inl []), .inl (0, 60, .inl []), .inl (3, 60, .inr []), .inl (3, 60, .inr []), .inr (8, [.ref 116, .ref 117, .ref 118, .ref 119, .int 0, .null]), .inl (0, 60, .inl []), .inl (0, 60, .inl []), .inl (3, 60, .inr []), .inl (3, 60, .inr []), .inr (8, [.ref 111, .ref 112, .ref 113, .ref 114, .int 0, .null]), .inl (0, 60, .inl []), .inl (0, 60, .inl []), .inl (3, 60, .inr []), .inl (3, 60, .inr []), .inr (8, [.ref 106, .ref 107, .ref 108, .ref 109, .int 0, .null]), .inl (0, 60, .inl []), .inl (0, 60, .inl []), .inl (3, 60, .inr []), .inl (3, 60, .inr []), .inr (8, [.ref 101, .ref 102, .ref 103, .ref 104, .int 0, .null]), .inl (0, 60, .inl []), .inl (0, 60, .inl []), .inl (3, 60, .inr []), .inl (3, 60, .inr []), .inr (8, [.ref 96, .ref 97, .ref 98, .ref 99, .int 0, .null]), .inl (0, 60, .inl []), .inl (0, 60, .inl []), .inl (3, 60, .inr []), .inl (3, 60, .inr []), .inr (8, [.ref 91, .ref 92, .ref 93, .ref 94, .int 0, .null]), .inl (0, 60, .inl []), .inl (0, 60, .inl []), .inl (3, 60, .inr []), .inl (3, 60, .inr []), .inr (8, [.ref 86, .ref 87, .ref 88, .ref 89, .int 0, .null]), .inl (0, 60, .inl []), .inl (0, 60, .inl []), .inl (3, 60, .inr []), .inl (3, 60, .inr []), .inr (8, [.ref 81, .ref 82, .ref 83, .ref 84, .int 0, .null]), .inl (0, 60, .inl []), .inl (0, 60, .inl []), .inl (3, 60, .inr []), .inl (3, 60, .inr []), .inr (8, [.ref 76, .ref 77, .ref 78, .ref 79, .int 0, .null]), .inl (3, 0, .inr []), .inr (4, [.int 0, .int 0, .int (-9), .ref 74, .int (-9), .null, .int 0, .int 0, .int (-1), .int 0, .int 0, .int (-9), .null]), .inl (4, 20, .inr [(19, some 170), (18, some 165), (17, some 160), (16, some 155), (15, some 150), (14, some 145), (13, some 140), (12, some 135), (11, some 130), (10, some 125), (9, some 120), (8, some 115), (7, some 110), (6, some 105), (5, some 100), (4, some 95), (3, some 90), (2, some 85), (1, some 80), (0, some 75)]), .inl (3, 60, .inr [(0, some 73)]), .inr (7, [.ref 71, .ref 73, .ref 73, .int 1, .int 1, .ref 72, .int 0, .int 0]), .inl (0, 1440, .inl [(2, .int 1), (1, .int 1), (0, .int 1)]), .inl (0, 1440, .inl [(2, .int (-9)), (1, .int (-9)), (0, .int (-9))]), .inl (0, 1440, .inl [(2, .int (-9)), (1, .int (-9)), (0, .int (-9))]), .inl (0, 1440, .inl [(2, .int 2), (1, .int 1), (0, .int 0)]), .inr (3, [.ref 66, .ref 67, .ref 68, .ref 69, .int 3, .int 40]), .inr (0, [.ref 65, .ref 70, .ref 175, .ref 176, .ref 183, .ref 188, .ref 193, .ref 194, .ref 195, .ref 196, .ref 197, .ref 198, .int 0, .int 0, .int 0, .int 0])])
def HM0 : MH := (353, [.inl (0, 8, .inl []), .inl (0, 12, .inl []), .inl (0, 400, .inl []), .inl (1, 400, .inl []), .inl (0, 80, .inl []), .inl (0, 80, .inl []), .inl (0, 33280, .inl []), .inl (2, 2600, .inl []), .inl (0, 2600, .inl []), .inl (0, 2600, .inl []), .inl (0, 2600, .inl []), .inl (0, 2600, .inl []), .inl (0, 2600, .inl []), .inl (0, 64, .inl []), .inl (0, 64, .inl []), .inl (0, 3004, .inl []), .inl (0, 360, .inl []), .inl (0, 360, .inl []), .inl (0, 360, .inl []), .inl (0, 6, .inl []), .inl (2, 80, .inl []), .inl (0, 240, .inl []), .inl (0, 80, .inl []), .inl (0, 80, .inl []), .inl (0, 4800, .inl []), .inl (0, 1600, .inl []), .inl (0, 1600, .inl []), .inl (0, 20, .inl []), .inl (0, 20, .inl []), .inl (1, 64, .inl []), .inl (0, 3004, .inl []), .inl (0, 3004, .inl []), .inl (0, 3004, .inl []), .inl (0, 80, .inl []), .inl (0, 9012, .inl []), .inl (0, 3004, .inl [(0, .int (-9))]), .inl (0, 3004, .inl [(0, .int (-9))]), .inl (0, 3004, .inl [(0, .int (-9))]), .inl (0, 3004, .inl [(0, .int (-9))]), .inl (0, 3004, .inl [(0, .int 0)]), .inl (0, 6000, .inl [(2, .int 1), (1, .int 1), (0, .int 1)]), .inl (0, 6000, .inl [(2, .int (-9)), (1, .int (-9)), (0, .int (-9))]), .inl (0, 6000, .inl [(2, .int (-9)), (1, .int (-9)), (0, .int (-9))]), .inl (0, 6000, .inl [(2, .int 2), (1, .int 1), (0, .int 0)]), .inl (0, 6, .inl []), .inr (12, [.int 0, .ref 308, .int 3, .int 40, .ref 309, .ref 310, .ref 311, .ref 312, .int 1, .ref 313, .ref 314, .ref 315, .ref 316, .ref 317, .ref 318, .int 0, .int 0, .ref 319, .int 0, .ref 320, .ref 321, .ref 322, .ref 323, .int 0, .int 0, .ref 324, .ref 325, .ref 326, .ref 327, .ref 328, .int 0, .int 0, .ref 329, .ref 330, .ref 331, .int 0, .ref 332, .ref 333, .ref 334, .ref 335, .ref 336, .int 0, .ref 337, .ref 338, .ref 339, .int 0, .ref 340, .ref 341, .ref 342, .ref 343, .ref 344, .ref 345, .int 0, .ref 346, .int 0, .int 0, .int 0, .int 0, .int 0, .int 0, .int (-9), .int (-9), .int 0, .int 0, .ref 347, .ref 348, .ref 349, .int 0, .ref 350, .int 0, .ref 351, .int 0, .ref 352, .int 0]), .inl (3, 0, .inr []), .inr (4, [.int (-9), .int 0, .int (-9), .ref 306, .int (-9), .ref 303, .int 0, .int 0, .int (-1), .int 0, .int 0, .int (-9), .null]), .inl (3, 1, .inr [(0, some 305)]), .inr (4, [.int (-9), .int 15, .int 0, .ref 304, .int (-9), .null, .int 0, .int 0, .int (-1), .int 0, .int 0, .int (-9), .null]), .inl (3, 0, .inr []), .inr (4, [.int (-9), .int 0, .int (-9), .ref 302, .int (-9), .ref 299, .int 0, .int 0, .int (-1), .int 0, .int 0, .int (-9), .null]), .inl (3, 1, .inr [(0, some 301)]), .inr (4, [.int (-9), .int 14, .int (-9), .ref 300, .int (-9), .null, .int 0, .int 0, .int (-1), .int 0, .int 0, .int (-9), .null]), .inl (3, 0, .inr []), .inr (4, [.int (-9), .int 0, .int (-9), .ref 298, .int (-9), .ref 295, .int 0, .int 0, .int (-1), .int 0, .int 0, .int (-9), .null]), .inl (3, 1, .inr [(0, some 297)]), .inr (4, [.int (-9), .int 13, .int (-9), .ref 296, .int (-9), .null, .int 0, .int 0, .int (-1), .int 0, .int 0, .int (-9), .null]), .inl (3, 0, .inr []), .inr (4, [.int (-9), .int 0, .int (-9), .ref 294, .int (-9), .ref 289, .int 1, .int 0, .int (-1), .int 0, .int 0, .int (-9), .null]), .inl (3, 0, .inr []), .inr (4, [.int (-9), .int 0, .int (-9), .ref 292, .int (-9), .ref 289, .int 0, .int 0, .int (-1), .int 0, .int 0, .int (-9), .null]), .inl (3, 2, .inr [(1, some 293), (0, some 291)]), .inr (4, [.int (-9), .int 12, .int (-9), .ref 290, .int (-9), .null, .int 0, .int 0, .int (-1), .int 0, .int 0, .int (-9), .null]), .inl (3, 0, .inr []), .inr (4, [.int (-9), .int 0, .int (-9), .ref 288, .int (-9), .ref 281, .int 2, .int 0, .int (-1), .int 0, .int 0, .int (-9), .null]), .inl (3, 0, .inr []), .inr (4, [.int (-9), .int 0, .int (-9), .ref 286, .int (-9), .ref 281, .int 1, .int 0, .int (-1), .int 0, .int 0, .int (-9), .null]), .inl (3, 0, .inr []), .inr (4, [.int (-9), .int 0, .int (-9), .ref 284, .int (-9), .ref 281, .int 0, .int 0, .int (-1), .int 0, .int 0, .int (-9), .null]), .inl (3, 3, .inr [(2, some 287), (1, some 285), (0, some 283)]), .inr (4, [.int (-9), .int 11, .int (-9), .ref 282, .int (-9), .null, .int 0, .int 0, .int (-1), .int 0, .int 0, .int (-9), .null]), .inl (3, 0, .inr []), .inr (4, [.int (-9), .int 0, .int (-9), .ref 280, .int (-9), .ref 275, .int 1, .int 0, .int (-1), .int 0, .int 0, .int (-9), .null]), .inl (3, 0, .inr []), .inr (4, [.int (-9), .int 0, .int (-9), .ref 278, .int (-9), .ref 275, .int 0, .int 0, .int (-1), .int 0, .int 0, .int (-9), .null]), .inl (3, 2, .inr [(1, some 279), (0, some 277)]), .inr (4, [.int (-9), .int 10, .int (-9), .ref 276, .int 0, .null, .int 0, .int 0, .int (-1), .int 0, .int 0, .int (-9), .null]), .inl (3, 0, .inr []), .inr (4, [.int (-9), .int 0, .int (-9), .ref 274, .int (-9), .ref 269, .int 1, .int 0, .int (-1), .int 0, .int 0, .int (-9), .null]), .inl (3, 0, .inr []), .inr (4, [.int (-9), .int 0, .int (-9), .ref 272, .int (-9), .ref 269, .int 0, .int 0, .int (-1), .int 0, .int 0, .int (-9), .null]), .inl (3, 2, .inr [(1, some 273), (0, some 271)]), .inr (4, [.int (-9), .int 9, .int (-9), .ref 270, .int (-9), .null, .int 0, .int 0, .int (-1), .int 0, .int 0, .int (-9), .null]), .inl (3, 0, .inr []), .inr (4, [.int (-9), .int 0, .int (-9), .ref 268, .int (-9), .ref 265, .int 0, .int 0, .int (-1), .int 0, .int 0, .int (-9), .null]), .inl (3, 1, .inr [(0, some 267)]), .inr (4, [.int (-9), .int 8, .int 0, .ref 266, .int 0, .null, .int 0, .int 0, .int (-1), .int 0, .int 0, .int (-9), .null]), .inl (3, 0, .inr []), .inr (4, [.int (-9), .int 0, .int (-9), .ref 264, .int (-9), .ref 259, .int 1, .int 0, .int (-1), .int 0, .int 0, .int (-9), .null]), .inl (3, 0, .inr []), .inr (4, [.int (-9), .int 0, .int (-9), .ref 262, .int (-9), .ref 259, .int 0, .int 0, .int (-1), .int 0, .int 0, .int (-9), .null]), .inl (3, 2, .inr [(1, some 263), (0, some 261)]), .inr (4, [.int (-9), .int 7, .int (-9), .ref 260, .int (-9), .null, .int 0, .int 0, .int (-1), .int 0, .int 0, .int (-9), .null]), .inl (3, 0, .inr []), .inr (4, [.int (-9), .int 0, .int (-9), .ref 258, .int (-9), .ref 253, .int 1, .int 0, .int (-1), .int 0, .int 0, .int (-9), .null]), .inl (3, 0, .inr []), .inr (4, [.int (-9), .int 0, .int (-9), .ref 256, .int (-9), .ref 253, .int 0, .int 0, .int (-1), .int 0, .int 0, .int (-9), .null]), .inl (3, 2, .inr [(1, some 257), (0, some 255)]), .inr (4, [.int (-9), .int 6, .int (-9), .ref 254, .int (-9), .null, .int 0, .int 0, .int (-1), .int 0, .int 0, .int (-9), .null]), .inl (3, 0, .inr []), .inr (4, [.int (-9), .int 0, .int (-9), .ref 252, .int (-9), .ref 247, .int 1, .int 0, .int (-1), .int 0, .int 0, .int (-9), .null]), .inl (3, 0, .inr []), .inr (4, [.int (-9), .int 0, .int (-9), .ref 250, .int (-9), .ref 247, .int 0, .int 0, .int (-1), .int 0, .int 0, .int (-9), .null]), .inl (3, 2, .inr [(1, some 251), (0, some 249)]), .inr (4, [.int (-9), .int 5, .int (-9), .ref 248, .int (-9), .null, .int 0, .int 0, .int (-1), .int 0, .int 0, .int (-9), .null]), .inl (3, 0, .inr []), .inr (4, [.int (-9), .int 0, .int (-9), .ref 246, .int (-9), .ref 241, .int 1, .int 0, .int (-1), .int 0, .int 0, .int (-9), .null]), .inl (3, 0, .inr []), .inr (4, [.int (-9), .int 0, .int (-9), .ref 244, .int (-9), .ref 241, .int 0, .int 0, .int (-1), .int 0, .int 0, .int (-9), .null]), .inl (3, 2, .inr [(1, some 245), (0, some 243)]), .inr (4, [.int (-9), .int 4, .int (-9), .ref 242, .int (-9), .null, .int 0, .int 0, .int (-1), .int 0, .int 0, .int (-9), .null]), .inl (3, 0, .inr []), .inr (4, [.int (-9), .int 3, .int (-9), .ref 240, .int 0, .null, .int 0, .int 0, .int (-1), .int 0, .int 0, .int (-9), .null]), .inl (3, 0, .inr []), .inr (4, [.int (-9), .int 2, .int (-9), .ref 238, .int 0, .null, .int 0, .int 0, .int (-1), .int 0, .int 0, .int (-9), .null]), .inl (3, 0, .inr []), .inr (4, [.int (-9), .int 1, .int (-9), .ref 236, .int 0, .null, .int 0, .int 0, .int (-1), .int 0, .int 0, .int (-9), .null]), .inl (0, 60, .inl []), .inl (0, 60, .inl []), .inl (0, 60, .inl []), .inl (0, 60, .inl []), .inl (0, 60, .inl []), .inr (1, [.ref 230, .ref 231, .ref 232, .ref 233, .ref 234, .int 0]), .inl (0, 60, .inl []), .inl (0, 60, .inl []), .inl (0, 60, .inl []), .inl (0, 60, .inl []), .inl (0, 60, .inl []), .inr (1, [.ref 224, .ref 225, .ref 226, .ref 227, .ref 228, .int 0]), .inl (0, 60, .inl []), .inl (0, 60, .inl []), .inl (0, 60, .inl []), .inl (0, 60, .inl []), .inl (0, 60, .inl []), .inr (1, [.ref 218, .ref 219, .ref 220, .ref 221, .ref 222, .int 0]), .inl (0, 60, .inl []), .inl (0, 60, .inl []), .inl (0, 60, .inl []), .inl (0, 60, .inl []), .inl (0, 60, .inl []), .inr (1, [.ref 212, .ref 213, .ref 214, .ref 215, .ref 216, .int 0]), .inl (0, 60, .inl []), .inl (0, 60, .inl []), .inl (0, 60, .inl []), .inl (0, 60, .inl []), .inl (0, 60, .inl []), .inr (1, [.ref 206, .ref 207, .ref 208, .ref 209, .ref 210, .int 0]), .inl (0, 60, .inl []), .inl (0, 60, .inl []), .inl (0, 60, .inl []), .inl (0, 60, .inl []), .inl (0, 60, .inl []), .inr (1, [.ref 200, .ref 201, .ref 202, .ref 203, .ref 204, .int 0]), .inl (0, 6, .inl []), .inl (3, 8, .inr []), .inl (0, 42, .inl []), .inl (0, 42, .inl []), .inl (3, 16, .inr [(15, some 303), (14, some 299), (13, some 295), (12, some 289), (11, some 281), (10, some 275), (9, some 269), (8, some 265), (7, some 259), (6, some 253), (5, some 247), (4, some 241), (3, some 239), (2, some 237), (1, some 235)]), .inl (5, 6, .inr [(5, some 229), (4, some 223), (3, some 217), (2, some 211), (1, some 205), (0, some 199)]), .inl (0, 2005, .inl []), .inl (6, 2005, .inr []), .inl (0, 400, .inl []), .inl (6, 400, .inr []), .inr (11, [.ref 189, .int 0, .ref 190, .int 0, .ref 191, .ref 192, .int 0]), .inl (0, 2005, .inl []), .inl (6, 2005, .inr []), .inl (0, 400, .inl []), .inl (6, 400, .inr []), .inr (11, [.ref 184, .int 0, .ref 185, .int 0, .ref 186, .ref 187, .int 0]), .inl (7, 320, .inr []), .inl (6, 620, .inr []), .inr (5, [.ref 181, .ref 182, .int 0, .int 0]), .inl (7, 320, .inr []), .inl (6, 620, .inr []), .inr (5, [.ref 178, .ref 179, .int 0, .int 0]), .inr (10, [.ref 177, .ref 180, .int 0, .int 0, .int (-1), .int (-9), .null]), .inr (2, [.ref 65]), .inl (0, 60, .inl []), .inl (0, 60, .inl []), .inl (3, 60, .inr []), .inl (3, 60, .inr []), .inr (8, [.ref 171, .ref 172, .ref 173, .ref 174, .int 0, .null]), .inl (0, 60, .inl []), .inl (0, 60, .inl []), .inl (3, 60, .inr []), .inl (3, 60, .inr []), .inr (8, [.ref 166, .ref 167, .ref 168, .ref 169, .int 0, .null]), .inl (0, 60, .inl []), .inl (0, 60, .inl []), .inl (3, 60, .inr []), .inl (3, 60, .inr []), .inr (8, [.ref 161, .ref 162, .ref 163, .ref 164, .int 0, .null]), .inl (0, 60, .inl []), .inl (0, 60, .inl []), .inl (3, 60, .inr []), .inl (3, 60, .inr []), .inr (8, [.ref 156, .ref 157, .ref 158, .ref 159, .int 0, .null]), .inl (0, 60, .inl []), .inl (0, 60, .inl []), .inl (3, 60, .inr []), .inl (3, 60, .inr []), .inr (8, [.ref 151, .ref 152, .ref 153, .ref 154, .int 0, .null]), .inl (0, 60, .inl []), .inl (0, 60, .inl []), .inl (3, 60, .inr []), .inl (3, 60, .inr []), .inr (8, [.ref 146, .ref 147, .ref 148, .ref 149, .int 0, .null]), .inl (0, 60, .inl []), .inl (0, 60, .inl []), .inl (3, 60, .inr []), .inl (3, 60, .inr []), .inr (8, [.ref 141, .ref 142, .ref 143, .ref 144, .int 0, .null]), .inl (0, 60, .inl []), .inl (0, 60, .inl []), .inl (3, 60, .inr []), .inl (3, 60, .inr []), .inr (8, [.ref 136, .ref 137, .ref 138, .ref 139, .int 0, .null]), .inl (0, 60, .inl []), .inl (0, 60, .inl []), .inl (3, 60, .inr []), .inl (3, 60, .inr []), .inr (8, [.ref 131, .ref 132, .ref 133, .ref 134, .int 0, .null]), .inl (0, 60, .inl []), .inl (0, 60, .inl []), .inl (3, 60, .inr []), .inl (3, 60, .inr []), .inr (8, [.ref 126, .ref 127, .ref 128, .ref 129, .int 0, .null]), .inl (0, 60, .inl []), .inl (0, 60, .inl []), .inl (3, 60, .inr []), .inl (3, 60, .inr []), .inr (8, [.ref 121, .ref 122, .ref 123, .ref 124, .int 0, .null]), .inl (0, 60, .inl []), .inl (0, 60, .inl []), .inl (3, 60, .inr []), .inl (3, 60, .inr []), .inr (8, [.ref 116, .ref 117, .ref 118, .ref 119, .int 0, .null]), .inl (0, 60, .inl []), .inl (0, 60, .inl []), .inl (3, 60, .inr []), .inl (3, 60, .inr []), .inr (8, [.ref 111, .ref 112, .ref 113, .ref 114, .int 0, .null]), .inl (0, 60, .inl []), .inl (0, 60, .inl []), .inl (3, 60, .inr []), .inl (3, 60, .inr []), .inr (8, [.ref 106, .ref 107, .ref 108, .ref 109, .int 0, .null]), .inl (0, 60, .inl []), .inl (0, 60, .inl []), .inl (3, 60, .inr []), .inl (3, 60, .inr []), .inr (8, [.ref 101, .ref 102, .ref 103, .ref 104, .int 0, .null]), .inl (0, 60, .inl []), .inl (0, 60, .inl []), .inl (3, 60, .inr []), .inl (3, 60, .inr []), .inr (8, [.ref 96, .ref 97, .ref 98, .ref 99, .int 0, .null]), .inl (0, 60, .inl []), .inl (0, 60, .inl []), .inl (3, 60, .inr []), .inl (3, 60, .inr []), .inr (8, [.ref 91, .ref 92, .ref 93, .ref 94, .int 0, .null]), .inl (0, 60, .inl []), .inl (0, 60, .inl []), .inl (3, 60, .inr []), .inl (3, 60, .inr []), .inr (8, [.ref 86, .ref 87, .ref 88, .ref 89, .int 0, .null]), .inl (0, 60, .inl []), .inl (0, 60, .inl []), .inl (3, 60, .inr []), .inl (3, 60, .inr []), .inr (8, [.ref 81, .ref 82, .ref 83, .ref 84, .int 0, .null]), .inl (0, 60, .inl []), .inl (0, 60, .inl []), .inl (3, 60, .inr []), .inl (3, 60, .inr []), .inr (8, [.ref 76, .ref 77, .ref 78, .ref 79, .int 0, .null]), .inl (3, 0, .inr []), .inr (4, [.int 0, .int 0, .int (-9), .ref 74, .int (-9), .null, .int 0, .int 0, .int (-1), .int 0, .int 0, .int (-9), .null]), .inl (4, 20, .inr [(19, some 170), (18, some 165), (17, some 160), (16, some 155), (15, some 150), (14, some 145), (13, some 140), (12, some 135), (11, some 130), (10, some 125), (9, some 120), (8, some 115), (7, some 110), (6, some 105), (5, some 100), (4, some 95), (3, some 90), (2, some 85), (1, some 80), (0, some 75)]), .inl (3, 60, .inr [(0, some 73)]), .inr (7, [.ref 71, .ref 73, .ref 73, .int 1, .int 1, .ref 72, .int 0, .int 0]), .inl (0, 1440, .inl [(2, .int 1), (1, .int 1), (0, .int 1)]), .inl (0, 1440, .inl [(2, .int (-9)), (1, .int (-9)), (0, .int (-9))]), .inl (0, 1440, .inl [(2, .int (-9)), (1, .int (-9)), (0, .int (-9))]), .inl (0, 1440, .inl [(2, .int 2), (1, .int 1), (0, .int 0)]), .inr (3, [.ref 66, .ref 67, .ref 68, .ref 69, .int 3, .int 40]), .inr (0, [.ref 65, .ref 70, .ref 175, .ref 176, .ref 183, .ref 188, .ref 193, .ref 194, .ref 195, .ref 196, .ref 197, .ref 198, .int 0, .int 0, .int 0, .int 0])])
def fldI (H : MH) (a y : Nat) : Int := match mget H a with
  | some (.inr (_, fs)) => match fs[y]? with
    | some (.int z) => z.toInt
    | _ => 0
  | _ => 0
def fldR (H : MH) (a y : Nat) : Nat := match mget H a with
  | some (.inr (_, fs)) => match fs[y]? with
    | some (.ref b) => b
    | _ => 2
  | _ => 2
def rowI (H : MH) (a : Nat) (i : Int) : Int := match mget H a with
  | some (.inl (_, _, .inl l)) => match rdI l i.toNat with
    | .int z => z.toInt
    | _ => 0
  | _ => 0
def rowR (H : MH) (a : Nat) (i : Int) : Nat := match mget H a with
  | some (.inl (_, _, .inr l)) => match rdQ l i.toNat with
    | some b => b
    | none => 2
  | _ => 2
def kndH (H : MH) (a : Nat) : Nat := if 307 ≤ a ∧ a < 353 then 0 else match mget H a with
  | some (.inr (ci, _)) => ci + 1
  | some (.inl (t, _, _)) => 100 + t
  | none => 0
def lenH (H : MH) (a : Nat) : Int := match mget H a with
  | some (.inl (_, n, _)) => n
  | _ => 0
def c00 : SC := (fldI HM0, fldR HM0, rowI HM0, rowR HM0, kndH HM0, lenH HM0, 353, 144644)
def s00 : SM := (fldI HM0 307, fun y j => match mfl[y]? with
  | some (some (a, _, _)) => rowI HM0 a j
  | _ => 0)
def isV0 (v : Value) : Bool := match v with
  | .int _ => true
  | _ => false
def isR0 (v : Value) : Bool := match v with
  | .ref b => !(b == 2)
  | .null => true
  | _ => false
def okF (ci : Nat) : Nat → List Value → Bool
  | _, [] => true
  | y, v :: r => (if isRf ci y then isR0 v else isV0 v) && okF ci (y + 1) r
/-- an entry is as its kind has it -/
def okE (e : ME) : Bool := match e with
  | .inr (ci, fs) => decide (ci ≤ 12) && (ci == 12 || (fs.length == nfl ci && okF ci 0 fs))
  | .inl (t, n, .inl l) => decide (t < 3) && (decide (n ≤ 67108864) && l.all (fun q => isV0 q.2))
  | .inl (t, n, .inr l) => decide (3 ≤ t) && (decide (n ≤ 67108864) && l.all (fun q => !(q.2 == some 2)))
theorem okE_all : HM0.2.all okE = true := by decide +kernel
theorem okF_at {ci : Nat} : ∀ {fs : List Value} {y : Nat}, okF ci y fs = true → ∀ k v, fs[k]? = some v → (if isRf ci (y + k) then isR0 v else isV0 v) = true := by
  intro fs
  induction fs with
  | nil => intro y h k v hk; simp at hk
  | cons w r ih =>
    intro y h k v hk
    have h : ((if isRf ci y then isR0 w else isV0 w) && okF ci (y + 1) r) = true := h
    rw [Bool.and_eq_true] at h
    cases k with
    | zero =>
      simp at hk
      rw [← hk]
      exact h.1
    | succ k =>
      simp at hk
      have := ih h.2 k v hk
      rw [show y + (k + 1) = y + 1 + k by omega]
      exact this
theorem rdI_ok {l : List (Nat × Value)} (h : l.all (fun q => isV0 q.2) = true) (j : Nat) : ∃ z : Int32, rdI l j = .int z := by
  induction l with
  | nil => exact ⟨0, rfl⟩
  | cons q r ih =>
    obtain ⟨k, v⟩ := q
    rw [List.all_cons, Bool.and_eq_true] at h
    show ∃ z : Int32, (if j = k then v else rdI r j) = .int z
    by_cases e : j = k
    · rw [if_pos e]
      have h1 : isV0 v = true := h.1
      cases v with
      | int z => exact ⟨z, rfl⟩
      | _ => cases h1
    · rw [if_neg e]
      exact ih h.2
theorem rdQ_ok {l : List (Nat × Option Nat)} (h : l.all (fun q => !(q.2 == some 2)) = true) (j : Nat) : rdQ l j ≠ some 2 := by
  induction l with
  | nil => intro q; cases q
  | cons q r ih =>
    obtain ⟨k, v⟩ := q
    rw [List.all_cons, Bool.and_eq_true] at h
    show (if j = k then v else rdQ r j) ≠ some 2
    by_cases e : j = k
    · rw [if_pos e]
      have h1 := h.1
      simpa using h1
    · rw [if_neg e]
      exact ih h.2
theorem i32_ok (z : Int32) : Int32.ofInt z.toInt = z ∧ inR z.toInt := ⟨Int32.ofInt_toInt z, by
  have h1 := Int32.le_toInt z
  have h2 := Int32.toInt_lt z
  unfold inR
  omega⟩
theorem H0_mem {a : Nat} {e : ME} (h : mget HM0 a = some e) : okE e = true ∧ 64 ≤ a ∧ a < 353 := by
  unfold mget at h
  by_cases g : a < HM0.1
  · rw [if_pos g] at h
    have h1 := List.all_eq_true.mp okE_all e (List.mem_of_getElem? h)
    have h2 := (List.getElem?_eq_some_iff.mp h).1
    have h3 : HM0.2.length = 289 := by decide +kernel
    have h4 : HM0.1 = 353 := rfl
    exact ⟨h1, by omega, by omega⟩
  · rw [if_neg g] at h
    cases h
theorem repC0 : RepC HM0 c00 HM0 := by
  refine ⟨⟨by decide +kernel, rfl⟩, fun a ha => ?_, fun _ _ _ => rfl, fun a ci ha hc => ?_, fun a t ha ht => ?_⟩
  · have ha : kndH HM0 a ≠ 0 := ha
    unfold kndH at ha
    by_cases g : 307 ≤ a ∧ a < 353
    · rw [if_pos g] at ha; exact absurd rfl ha
    · rw [if_neg g] at ha
      cases e : mget HM0 a with
      | none => rw [e] at ha; exact absurd rfl ha
      | some w =>
        have := (H0_mem e).2
        exact ⟨this.1, this.2, g⟩
  · have ha : kndH HM0 a = ci + 1 := ha
    unfold kndH at ha
    by_cases g : 307 ≤ a ∧ a < 353
    · rw [if_pos g] at ha; omega
    · rw [if_neg g] at ha
      cases e : mget HM0 a with
      | none => rw [e] at ha; exact absurd (show 0 = ci + 1 from ha) (by omega)
      | some w =>
        rw [e] at ha
        have ok := (H0_mem e).1
        rcases w with ⟨t, n, l⟩ | ⟨ci', fs⟩
        · have ha : 100 + t = ci + 1 := ha
          exfalso
          omega
        · have ha : ci' + 1 = ci + 1 := ha
          obtain rfl : ci' = ci := by omega
          have ok : (decide (ci' ≤ 12) && (ci' == 12 || (fs.length == nfl ci' && okF ci' 0 fs))) = true := ok
          simp only [Bool.or_eq_true, Bool.and_eq_true, beq_iff_eq, decide_eq_true_eq] at ok
          obtain ⟨ok1, ok2⟩ := ok.2.resolve_left (by omega)
          refine ⟨fs, e, ok1, fun y hy => ?_⟩
          have hg : fs[y]? = some (fs[y]'(by omega)) := List.getElem?_eq_getElem (by omega)
          have hk := okF_at ok2 y _ hg
          rw [Nat.zero_add] at hk
          have eI : fI c00 a y = fldI HM0 a y := rfl
          have eR : fR c00 a y = fldR HM0 a y := rfl
          rw [eI, eR]
          unfold fldI fldR
          rw [e]
          dsimp only
          rw [hg]
          generalize fs[y]'(by omega) = v at hk
          refine ⟨fun h => ?_, fun h => ?_⟩
          · rw [h, if_pos rfl] at hk
            cases v with
            | ref b =>
              have hb : b ≠ 2 := by
                intro q
                rw [q] at hk
                cases hk
              show some (Value.ref b) = some (emb (vr b))
              rw [emb_r hb]
            | null => rfl
            | _ => cases hk
          · rw [h] at hk
            cases v with
            | int z =>
              show some (Value.int z) = some (Value.int (Int32.ofInt z.toInt)) ∧ inR z.toInt
              rw [(i32_ok z).1]
              exact ⟨rfl, (i32_ok z).2⟩
            | _ => cases hk
  · have ha : kndH HM0 a = 100 + t := ha
    unfold kndH at ha
    by_cases g : 307 ≤ a ∧ a < 353
    · rw [if_pos g] at ha; omega
    · rw [if_neg g] at ha
      cases e : mget HM0 a with
      | none => rw [e] at ha; exact absurd (show 0 = 100 + t from ha) (by omega)
      | some w =>
        rw [e] at ha
        have ok := (H0_mem e).1
        have eL : le c00 a = lenH HM0 a := rfl
        have eA : ∀ i, aI c00 a i = rowI HM0 a i := fun _ => rfl
        have eB : ∀ i, aR c00 a i = rowR HM0 a i := fun _ => rfl
        unfold arR
        rw [eL]
        rcases w with ⟨t', n, l⟩ | ⟨ci', fs⟩
        · have ha : 100 + t' = 100 + t := ha
          obtain rfl : t' = t := by omega
          have e1 : lenH HM0 a = n := by unfold lenH; rw [e]
          rw [e1]
          rcases l with l | l
          · have ok : (decide (t' < 3) && (decide (n ≤ 67108864) && l.all (fun q => isV0 q.2))) = true := ok
            simp only [Bool.and_eq_true, decide_eq_true_eq] at ok
            obtain ⟨o1, o2, o3⟩ := ok
            refine ⟨by omega, by omega, fun _ => ⟨l, e, fun j _ => ?_⟩, fun q => by omega⟩
            obtain ⟨z, hz⟩ := rdI_ok o3 j
            have e2 : aI c00 a j = z.toInt := by
              rw [eA]
              unfold rowI
              rw [e]
              dsimp only
              rw [show ((j : Nat) : Int).toNat = j from Int.toNat_natCast j, hz]
            rw [e2, hz, (i32_ok z).1]
            exact ⟨rfl, (i32_ok z).2⟩
          · have ok : (decide (3 ≤ t') && (decide (n ≤ 67108864) && l.all (fun q => !(q.2 == some 2)))) = true := ok
            simp only [Bool.and_eq_true, decide_eq_true_eq] at ok
            obtain ⟨o1, o2, o3⟩ := ok
            refine ⟨by omega, by omega, fun q => by omega, fun _ => ⟨l, e, fun j _ => ?_⟩⟩
            rw [eB]
            unfold rowR
            rw [e]
            dsimp only
            rw [show ((j : Nat) : Int).toNat = j from Int.toNat_natCast j]
            have h2 := rdQ_ok o3 j
            cases hq : rdQ l j with
            | none => rfl
            | some b =>
              show some b = rfq b
              unfold rfq
              rw [if_neg (fun q => h2 (by rw [hq, q]))]
        · have ha : ci' + 1 = 100 + t := ha
          have ok : (decide (ci' ≤ 12) && (ci' == 12 || (fs.length == nfl ci' && okF ci' 0 fs))) = true := ok
          rw [Bool.and_eq_true, decide_eq_true_eq] at ok
          exfalso
          have := ok.1
          omega
theorem repM0 : RepM HM0 s00 HM0 := by
  have hf : ∃ fs, mget HM0 307 = some (.inr (12, fs)) ∧ fs.length = 74 ∧ (List.range 74).all (fun y => match mfl[y]?, fs[y]? with
    | some none, some v => isV0 v
    | some (some (a, _, _)), some v => decide (v = .ref a)
    | _, _ => false) = true := by
    have : (match mget HM0 307 with
      | some (.inr (12, fs)) => decide (fs.length = 74) && (List.range 74).all (fun y => match mfl[y]?, fs[y]? with
        | some none, some v => isV0 v
        | some (some (a, _, _)), some v => decide (v = .ref a)
        | _, _ => false)
      | _ => false) = true := by decide +kernel
    split at this
    · rename_i fs h
      rw [Bool.and_eq_true, decide_eq_true_eq] at this
      exact ⟨fs, h, this.1, this.2⟩
    · cases this
  obtain ⟨fs, h1, h2, h3⟩ := hf
  refine ⟨⟨by decide +kernel, rfl⟩, fun _ _ => rfl, ⟨fs, h1, h2, fun y => ?_⟩, fun y a t n hy => ?_⟩
  · unfold mfS
    by_cases hl : y < 74
    · have h4 := List.all_eq_true.mp h3 y (List.mem_range.mpr hl)
      have hg : fs[y]? = some (fs[y]'(by omega)) := List.getElem?_eq_getElem (by omega)
      have e1 : s00.1 y = fldI HM0 307 y := rfl
      rw [e1]
      unfold fldI
      rw [h1]
      dsimp only
      rw [hg] at h4 ⊢
      generalize fs[y]'(by omega) = v at h4
      cases e : mfl[y]? with
      | none => trivial
      | some q =>
        rw [e] at h4
        cases q with
        | none =>
          have h4 : isV0 v = true := h4
          cases v with
          | int z =>
            show some (Value.int z) = some (Value.int (Int32.ofInt z.toInt)) ∧ inR z.toInt
            rw [(i32_ok z).1]
            exact ⟨rfl, (i32_ok z).2⟩
          | _ => cases h4
        | some q =>
          obtain ⟨a, t, n⟩ := q
          have h4 : decide (v = .ref a) = true := h4
          show some v = some (.ref a)
          rw [of_decide_eq_true h4]
    · have : mfl[y]? = none := List.getElem?_eq_none (by have : mfl.length = 74 := by decide +kernel
                                                         omega)
      rw [this]
      trivial
  · have hc : mfl.all (fun q => match q with
      | some (a, t, n) => match mget HM0 a with
        | some (.inl (t', n', .inl l)) => decide (t' = t) && (decide (n' = n) && l.all (fun q => isV0 q.2))
        | _ => false
      | none => true) = true := by decide +kernel
    have h4 := List.all_eq_true.mp hc _ (List.mem_of_getElem? hy)
    have h4 : (match mget HM0 a with
        | some (.inl (t', n', .inl l)) => decide (t' = t) && (decide (n' = n) && l.all (fun q => isV0 q.2))
        | _ => false) = true := h4
    split at h4
    · rename_i t' n' l h
      simp only [Bool.and_eq_true, decide_eq_true_eq] at h4
      obtain ⟨rfl, rfl, h5⟩ := h4
      refine ⟨l, h, fun j _ => ?_⟩
      obtain ⟨z, hz⟩ := rdI_ok h5 j
      have e2 : s00.2 y j = z.toInt := by
        show (match mfl[y]? with
          | some (some (a, _, _)) => rowI HM0 a j
          | _ => 0) = z.toInt
        rw [hy]
        show rowI HM0 a j = z.toInt
        unfold rowI
        rw [h]
        dsimp only
        rw [show ((j : Nat) : Int).toNat = j from Int.toNat_natCast j, hz]
      rw [e2, hz, (i32_ok z).1]
      exact ⟨rfl, (i32_ok z).2⟩
    · cases h4
end
section
/-! Both sides behind their constructors are a pair. -/
def A00 (b : Int) : Nat := if b = 0 then 73 else 2
theorem rowI_nil {a t n : Nat} (h : mget HM0 a = some (.inl (t, n, .inl []))) (i : Int) : rowI HM0 a i = 0 := by
  unfold rowI
  rw [h]
  rfl
theorem rowR_nil {a t n : Nat} (h : mget HM0 a = some (.inl (t, n, .inr []))) (i : Int) : rowR HM0 a i = 2 := by
  unfold rowR
  rw [h]
  rfl
/-- an empty row of the reference -/
def nilM (y : Nat) : Bool := match mfl[y]? with
  | some (some (a, _, _)) => match mget HM0 a with
    | some (.inl (_, _, .inl [])) => true
    | _ => false
  | _ => false
theorem nilM_ok {y : Nat} (h : nilM y = true) (i : Int) : s00.2 y i = 0 := by
  unfold nilM at h
  show (match mfl[y]? with
    | some (some (a, _, _)) => rowI HM0 a i
    | _ => 0) = 0
  split at h
  · rename_i a t n e
    split at h
    · rename_i e2
      exact rowI_nil e2 i
    · cases h
  · cases h
theorem m1 : nilM 1 = true := by decide +kernel
theorem m37 : nilM 37 = true := by decide +kernel
theorem m42 : nilM 42 = true := by decide +kernel
theorem m72 : nilM 72 = true := by decide +kernel
theorem v00 : s00.1 0 = 0 ∧ s00.1 2 = 3 ∧ s00.1 8 = 1 ∧ s00.1 15 = 0 ∧ s00.1 16 = 0 ∧ s00.1 24 = 0 ∧ s00.1 35 = 0 ∧ s00.1 56 = 0 ∧ s00.1 60 = -9 ∧ s00.1 61 = -9 ∧ s00.1 63 = 0 ∧ s00.1 71 = 0 := by decide +kernel
theorem r00 : s00.2 9 0 = 0 ∧ s00.2 10 0 = -9 ∧ s00.2 11 0 = -9 ∧ s00.2 12 0 = -9 ∧ s00.2 13 0 = -9 := by decide +kernel
theorem k00 : ∀ k : Nat, k < 3 → (s00.2 4 k = k ∧ s00.2 5 k = -9 ∧ s00.2 6 k = -9 ∧ s00.2 7 k = 1) ∧ (aI c00 66 k = k ∧ aI c00 67 k = -9 ∧ aI c00 68 k = -9 ∧ aI c00 69 k = 1) := by decide +kernel
theorem KI00 : KIs s00 := ⟨by have := v00.2.1; omega, fun k k0 k3 => by
  obtain ⟨j, rfl⟩ : ∃ j : Nat, k = j := ⟨k.toNat, by omega⟩
  exact (k00 j (by omega)).1, fun k k3 kn => by have := v00.2.1; omega⟩
theorem SHT00 : SHT s00 (.index 0) := by
  obtain ⟨v0, v2, v8, v15, v16, -⟩ := v00
  obtain ⟨r9, r10, r11, r12, r13⟩ := r00
  refine ⟨⟨by show ((0 : Nat) : Int) < s00.1 8; omega, by show 0 ≤ s00.2 9 ((0 : Nat) : Int); rw [show (((0 : Nat) : Int)) = 0 from rfl, r9]; decide, by show s00.2 9 ((0 : Nat) : Int) < 16; rw [show (((0 : Nat) : Int)) = 0 from rfl, r9]; decide⟩, ?_, by decide, by decide, by omega, by rw [v15]; rfl, r12, r13⟩
  show (0 : Int) = pO (s00.2 9 0)
  rw [r9]
  decide
theorem AFT00 : AFT s00 (.index 0) := by
  obtain ⟨v0, v2, v8, v15, v16, -⟩ := v00
  obtain ⟨r9, r10, r11, r12, r13⟩ := r00
  refine ⟨SHT00, fun x x0 x1 => ?_, by rw [v16]; exact List.mem_singleton.mpr rfl⟩
  obtain rfl : x = 0 := by omega
  rw [r9]
  exact ⟨by decide, fun q => by omega, fun q => by omega, fun q => by omega⟩
theorem MS00 : MS 0 s00 (.index 0) [] (fun _ => none) .null [] := by
  obtain ⟨v0, v2, v8, v15, v16, v24, v35, v56, v60, v61, v63, v71⟩ := v00
  obtain ⟨r9, r10, r11, r12, r13⟩ := r00
  have nv : ¬ hasV s00 := by unfold hasV; omega
  refine ⟨⟨AFT00, KI00, fun x x0 x1 => ?_, fun u hu => by cases hu⟩, ⟨⟨by omega, fun i i0 i8 => ?_⟩, fun f f0 f6 => ?_⟩, ⟨⟨v24, by decide, fun i u h => by simp at h⟩, fun p p0 p6 => ⟨fun _ => nilM_ok m37 p, fun e h => by cases h⟩⟩, ⟨fun b _ _ => Or.inl (nilM_ok m42 b), fun b _ _ => nilM_ok m42 b⟩, ⟨fun h => absurd h nv, fun h => absurd h nv⟩, ⟨v63, by decide, fun k a h => by simp at h⟩, fun p h => by cases h⟩
  · obtain rfl : x = 0 := by omega
    rw [r9, r10, r11]
    decide
  · rw [nilM_ok m72 i]; omega
  · rw [nilM_ok m1 f]; omega
theorem FIX00 : FIX c00 := by
  refine ⟨?_, ⟨?_, ?_⟩, by decide +kernel, by decide +kernel⟩
  · unfold FIXa; repeat' apply And.intro
    all_goals decide +kernel
  · unfold FIXs; decide +kernel
  · unfold FIXc; decide +kernel
theorem TRa : ∀ n : Nat, n < 16 → n ≠ 0 → aR c00 194 n = tra n ∧ kl c00 (tra n) = 5 ∧ kl c00 (tra n + 1) = 103 ∧ le c00 (tra n + 1) = pO n := by decide +kernel
theorem TRb : ∀ n : Nat, n < 16 → n ≠ 0 → fI c00 (tra n) 1 = n ∧ fR c00 (tra n) 3 = tra n + 1 ∧ (n = 8 ∨ n = 15 → fI c00 (tra n) 2 = 0) := by decide +kernel
theorem TRd : ∀ n : Nat, n < 16 → ∀ i : Nat, i < 3 → (n ≠ 0 ∧ (i : Int) < pO n) → aR c00 (tra n + 1) i = tra n + 2 + 2 * i ∧ kl c00 (tra n + 2 + 2 * i) = 5 ∧ kl c00 (tra n + 2 + 2 * i + 1) = 103 ∧ le c00 (tra n + 2 + 2 * i + 1) = 0 := by decide +kernel
theorem TRe : ∀ n : Nat, n < 16 → ∀ i : Nat, i < 3 → (n ≠ 0 ∧ (i : Int) < pO n) → fI c00 (tra n + 2 + 2 * i) 1 = 0 ∧ fR c00 (tra n + 2 + 2 * i) 3 = tra n + 2 + 2 * i + 1 ∧ fR c00 (tra n + 2 + 2 * i) 5 = tra n ∧ fI c00 (tra n + 2 + 2 * i) 6 = i := by decide +kernel
theorem TR00 : TRc c00 := fun n n1 n16 => by
  obtain ⟨a1, a2, a3, a4⟩ := TRa n n16 (by omega)
  refine ⟨⟨a1, a2, a3, a4, TRb n n16 (by omega)⟩, fun i hi => ?_⟩
  have := pO_in n
  obtain ⟨b1, b2, b3, b4⟩ := TRd n n16 i (by omega) ⟨by omega, hi⟩
  exact ⟨b1, b2, b3, b4, TRe n n16 i (by omega) ⟨by omega, hi⟩⟩
/-- what the desk's cells hold at first -/
theorem w00 : (fR c00 70 1 = 73 ∧ fR c00 70 2 = 73 ∧ fI c00 70 3 = 1 ∧ fI c00 70 4 = 1 ∧ fI c00 70 6 = 0 ∧ fI c00 70 7 = 0) ∧ (aR c00 71 0 = 73 ∧ fI c00 73 7 = 0 ∧ fR c00 73 5 = 2 ∧ fR c00 73 12 = 2 ∧ fI c00 73 11 = -9 ∧ fI c00 73 8 = -1 ∧ fI c00 73 10 = 0 ∧ fI c00 73 9 = 0) ∧ (fI c00 64 12 = 0 ∧ fI c00 64 14 = 0 ∧ fI c00 64 15 = 0 ∧ fI c00 65 4 = 3 ∧ fI c00 65 5 = 40) ∧ (fR c00 176 0 = 177 ∧ fR c00 176 1 = 180 ∧ fR c00 176 6 = 2 ∧ fI c00 176 3 = 0 ∧ fI c00 176 4 = -1 ∧ fI c00 176 5 = -9) := by decide +kernel
theorem n00 : NDb c00 73 0 0 (-9) (-9) ∧ 73 + 1 < nxt c00 := by unfold NDb; decide +kernel
theorem j00 : (jdg s00 (.index 0)).2.2 0 = 0 := by decide +kernel
theorem j01 : (jdg s00 (.index 0)).1 0 = .null ∧ (jdg s00 (.index 0)).2.1 0 = none := by
  have e : jdg s00 (.index 0) = (jen (s00.2 9 ((0 : Nat) : Int)) ((0 : Nat) : Int) none (if s00.2 9 ((0 : Nat) : Int) = 0 then (jin ((0 : Nat) : Int) none J0, .null) else if s00.2 9 ((0 : Nat) : Int) = 1 then (jin ((0 : Nat) : Int) none J0, .result) else if s00.2 9 ((0 : Nat) : Int) = 2 then (jin ((0 : Nat) : Int) none J0, .thrown) else jnm (s00.2 9) (s00.2 11) (s00.2 14) (kks s00) (bds s00 ((0 : Nat) : Int) (s00.2 10 ((0 : Nat) : Int))) ((0 : Nat) : Int) (jin ((0 : Nat) : Int) none J0))).1 := rfl
  rw [e, show (((0 : Nat) : Int)) = 0 from rfl, if_pos r00.1]
  exact ⟨rfl, rfl⟩
theorem q00 : ∀ a : Nat, a < 353 → kl c00 a = 5 → (fR c00 a 12 = 2 ∧ fI c00 a 11 = -9) ∨ a = 73 := by decide +kernel
theorem z00 : ∀ p : Nat, p < 6 → fI c00 (199 + 6 * p) 5 = 0 := by decide +kernel
def nilC (a : Nat) : Bool := match mget HM0 a with
  | some (.inl (_, _, .inr [])) => true
  | _ => false
theorem nilC_ok {a : Nat} (h : nilC a = true) (i : Int) : aR c00 a i = 2 := by
  show rowR HM0 a i = 2
  unfold nilC at h
  split at h
  · rename_i e2
    exact rowR_nil e2 i
  · cases h
theorem x198 (i : Int) : aI c00 198 i = 0 := by
  have h : (match mget HM0 198 with
    | some (.inl (_, _, .inl [])) => true
    | _ => false) = true := by decide +kernel
  show rowI HM0 198 i = 0
  split at h
  · rename_i e2
    exact rowI_nil e2 i
  · cases h
theorem R100 : R1 A00 c00 s00 (.index 0) := by
  obtain ⟨v0, v2, v8, v15, v16, v24, v35, v56, v60, v61, v63, v71⟩ := v00
  obtain ⟨r9, r10, r11, r12, r13⟩ := r00
  obtain ⟨⟨d1, d2, d3, d4, d6, d7⟩, ⟨e1, e2, e3, e4, e5, e6, e7, e8⟩, ⟨f1, f2, f3, f4, f5⟩, -⟩ := w00
  have hx : ∀ x, x ∈ fl (.index 0) → x = 0 := fun x h => List.mem_singleton.mp h
  have KJ0 : KJc c00 := ⟨⟨by rw [f4]; omega, fun k k0 k3 => by
    obtain ⟨j, rfl⟩ : ∃ j : Nat, k = j := ⟨k.toNat, by omega⟩
    exact (k00 j (by omega)).2, fun k k3 kn => by omega⟩, by omega, fun k k1 k2 => by omega⟩
  refine ⟨⟨FIX00, ⟨fun b hb => ?_, fun b b0 b1 => ?_⟩, ⟨fun x hx' => ?_, d1⟩, d3, fun j x hj => ?_⟩, ⟨by rw [v16]; exact d2, by rw [v8]; exact d4⟩, ⟨by rw [v2]; exact f4, fun k k0 k1 => ?_⟩, KJ0, by omega, fun x hx' => ?_⟩
  · unfold A00
    rw [if_neg (by omega)]
  · obtain rfl : b = 0 := by omega
    rw [r9, r10, r11]
    exact ⟨n00.1, n00.2, Or.inl rfl⟩
  · rw [hx x hx', r12, r9]
    refine ⟨e3, fun q => absurd rfl q, fun i i0 i1 => ?_⟩
    have : pO 0 = 0 := by decide
    omega
  · cases j with
    | zero =>
      have : x = 0 := by
        simp [fl] at hj
        omega
      rw [this]
      exact ⟨e1, e2⟩
    | succ j => simp [fl] at hj
  · obtain ⟨j, rfl⟩ : ∃ j : Nat, k = j := ⟨k.toNat, by omega⟩
    obtain ⟨⟨p1, p2, p3, p4⟩, q1, q2, q3, q4⟩ := k00 j (by omega)
    rw [p1, p2, p3, p4]
    exact ⟨q1, q2, q3, q4⟩
  · rw [hx x hx', j00, j01.1, j01.2]
    have : A00 0 = 73 := rfl
    rw [this, e6, e7, e8]
    refine ⟨⟨Or.inl (by omega), ?_⟩, rfl, rfl, by decide, by decide⟩
    exact (kt_leaf KJ0).1 (k00 0 (by omega)).2.1
theorem PAIR00 : PAIR 0 s00 c00 := by
  obtain ⟨v0, v2, v8, v15, v16, v24, v35, v56, v60, v61, v63, v71⟩ := v00
  obtain ⟨⟨d1, d2, d3, d4, d6, d7⟩, ⟨e1, e2, e3, e4, e5, e6, e7, e8⟩, ⟨f1, f2, f3, f4, f5⟩, g0, g1, g6, g3, g4, g5⟩ := w00
  have nv : ¬ hasV s00 := by unfold hasV; omega
  have n178 : ∀ i, aR c00 178 i = 2 := nilC_ok (by decide +kernel)
  have n179 : ∀ i, aR c00 179 i = 2 := nilC_ok (by decide +kernel)
  have n181 : ∀ i, aR c00 181 i = 2 := nilC_ok (by decide +kernel)
  have n182 : ∀ i, aR c00 182 i = 2 := nilC_ok (by decide +kernel)
  have n197 : ∀ i, aR c00 197 i = 2 := nilC_ok (by decide +kernel)
  have hp : ∀ r, (r = 1 ∨ r = 2) → ∀ p, (p = 177 ∨ p = 180) → ∀ i, aR c00 (p + r) i = 2 := fun r hr p hp i => by
    rcases hr with rfl | rfl <;> rcases hp with rfl | rfl
    · exact n178 i
    · exact n181 i
    · exact n179 i
    · exact n182 i
  have pl : ∀ q, (q = 177 ∨ q = 180) → (0 ≤ fI c00 q 2 ∧ fI c00 q 2 ≤ 620) ∧ 0 ≤ fI c00 q 3 ∧ fI c00 q 3 ≤ 320 := fun q hq => by
    rcases hq with rfl | rfl <;> decide +kernel
  refine ⟨A00, .index 0, [], fun _ => none, .null, [], MS00, ⟨R100, ⟨⟨by rw [v71]; exact f1, fun i i0 i8 => ?_⟩, ⟨by rw [v0]; exact f2, fun f _ _ => by rw [x198, nilM_ok m1]⟩, TR00⟩, ⟨⟨d7, by decide, by omega, by omega⟩, fun i u h => by simp at h⟩, fun p hp => ⟨fun _ => z00 p hp, fun u h => by cases h⟩⟩, ⟨177, 180, ⟨Or.inl ⟨rfl, rfl⟩, g0, g1, fun q hq => ⟨pl q hq, fun i _ _ => Or.inl (hp 1 (Or.inl rfl) q hq i), fun i _ _ => Or.inl (hp 2 (Or.inr rfl) q hq i)⟩, fun p q i j h1 h2 _ _ _ _ _ hn => absurd (hp 1 (Or.inl rfl) p h1 i) hn, fun p q i j h1 h2 _ _ _ _ _ hn => absurd (hp 2 (Or.inr rfl) p h1 i) hn⟩, ⟨fun h => absurd h nv, fun _ => g6⟩, ⟨by rw [v56]; exact g3, by rw [v60]; exact g5⟩, by rw [g4, v61]; rfl⟩, ⟨⟨fun _ => v35, fun _ => f3⟩, fun a ha hk => ?_, fun b hb => ?_, fun _ => ⟨fun b b0 b1 h => ?_, fun b hb => ?_⟩⟩⟩
  · rw [n197, nilM_ok m72]
    rfl
  · rcases q00 a ha hk with h | h
    · exact Or.inl h
    · exact Or.inr ⟨0, by omega, by omega, h⟩
  · rw [List.mem_singleton.mp hb]
    exact e4
  · rw [nilM_ok m42] at h
    omega
  · rw [List.mem_singleton.mp hb]
    exact e5
end
section
/-! One call on both: the desk first, then the reference. -/
section
variable {iv : List (Int × Int)} {L : Nat} {H h1 h2 : MH} {d M X : Nat} {asM asX : List VV} {s s' : SM} {c c' : SC}
theorem repM_up (h : RepM H s H) (hx : RepC H c' h1) : RepM h1 s h1 := by
  obtain ⟨⟨a1, a2⟩, a3, ⟨fs, b1, b2, b3⟩, b4⟩ := h
  obtain ⟨⟨c1, c2⟩, c3, c4, -⟩ := hx
  refine ⟨⟨c1, rfl⟩, fun _ _ => rfl, ⟨fs, by rw [c4 307 (by omega) (by omega)]; exact b1, b2, b3⟩, fun y a t n hy => ?_⟩
  have := mfl_adr hy
  obtain ⟨l, e1, e2⟩ := b4 y a t n hy
  exact ⟨l, by rw [c4 a (by omega) (by omega)]; exact e1, e2⟩
theorem repM_at (h : RepM h1 s' h2) : RepM h2 s' h2 := ⟨⟨h.1.1, rfl⟩, fun _ _ => rfl, h.2.2⟩
theorem repC_at (h : RepC H c' h1) (hm : RepM h1 s' h2) : RepC h2 c' h2 := by
  obtain ⟨⟨a1, a2⟩, a3, -, a5, a6⟩ := h
  obtain ⟨⟨b1, b2⟩, b3, -⟩ := hm
  have hg : ∀ a, kl c' a ≠ 0 → mget h2 a = mget h1 a := fun a ha => b3 a (by have := a3 a ha; omega)
  refine ⟨⟨b1, by rw [b2, a2]⟩, a3, fun _ _ _ => rfl, fun a ci ha hc => ?_, fun a t ha ht => ?_⟩
  · obtain ⟨fs, e1, e2⟩ := a5 a ci ha hc
    exact ⟨fs, by rw [hg a (by omega)]; exact e1, e2⟩
  · have := a6 a t ha ht
    unfold arR at this ⊢
    rw [hg a (by omega)]
    exact this
theorem run_same {f g e : Nat} {lc : ML} {st : List Value} {k n : Nat} {r1 r2 : Option Value × MH × Nat × Nat} (h1 : mrun iv (mG L (fun _ => 0)) f d M e lc st H k n = some r1) (h2 : mrun iv (mG L (fun _ => 0)) g d M e lc st H k n = some r2) : r1 = r2 := by
  have a := mrun_f f (max f g) d d M e lc st H k n r1 (Nat.le_max_left _ _) (Nat.le_refl _) h1
  have b := mrun_f g (max f g) d d M e lc st H k n r2 (Nat.le_max_right _ _) (Nat.le_refl _) h2
  rw [a] at b
  injection b
theorem op_both {G : Option VV → SM → Option VV → SC → Prop} (hP : ∀ h0, cm iv L h0 d M asM s (fun v s' => ∀ h0', ck iv L h0' d X asX c (fun v' c' => G v s' v' c'))) (hM : RepM H s H) (hC : RepC H c H) (oM : okS asM) (oX : okS asX) : ∃ f k1 n1 h1 w1, mrun iv (mG L (fun _ => 0)) f d X 0 (ment 0 (ems asX)) [] H 0 0 = some (w1.map emb, h1, k1, n1) ∧ ∃ f2 h2 w2 s' c' w', mrun iv (mG L (fun _ => 0)) f2 d M 0 (ment 0 (ems asM)) [] h1 0 0 = some (w2.map emb, h2, 0, 0) ∧ w1.map emb = w'.map emb ∧ ((∀ w, w1 = some w → okV w) ∧ (∀ w, w2 = some w → okV w) ∧ ∀ w, w' = some w → okV w) ∧ G w2 s' w' c' ∧ (RepM h2 s' h2 ∧ RepC h2 c' h2) ∧ nxt c + k1 = nxt c' ∧ slo c + n1 = slo c' := by
  have rel : ∀ as, relL (entv as) (ment 0 (ems as)) := fun as i v h => by
    have := relL_ent as 0 i v h
    rwa [Nat.zero_add] at this
  have no : okS [] := fun _ h => by cases h
  obtain ⟨f, v, h', k, n, s1, r1, o1, p1, q1, q2, g1⟩ := hP H (okL_ent asM oM) no H _ (rel asM) hM
  obtain ⟨fx, w1, hx, k1, n1, c1, rx, ox, px, qx1, qx2, -⟩ := g1 H (okL_ent asX oX) no H _ (rel asX) hC
  have hM1 := repM_up hM px
  obtain ⟨f2, w2, h2, k2, n2, s2, r2, o2, p2, u1, u2, g2⟩ := hP hx (okL_ent asM oM) no hx _ (rel asM) hM1
  obtain ⟨fy, w', hy, ky1, ny1, c2, ry, oy, py, y1, y2, g3⟩ := g2 H (okL_ent asX oX) no H _ (rel asX) hC
  have e := run_same rx ry
  injection e with e1 e2
  injection e2 with e2 e3
  injection e3 with e3 e4
  subst e2 e3 e4
  have z1 : k2 = 0 := by
    have u1 : 0 + k2 = 0 := u1
    omega
  have z2 : n2 = 0 := by
    have u2 : 0 + n2 = 0 := u2
    omega
  subst z1 z2
  exact ⟨fx, k1, n1, hx, w1, rx, f2, h2, w2, s2, c2, w', r2, e1, ⟨ox, o2, oy⟩, g3, ⟨repM_at p2, repC_at py p2⟩, y1, y2⟩
end
end
section
/-! A run without the script is a run with any script. -/
def mGn : GI := ((mG 0 (fun _ => 0)).1, (mG 0 (fun _ => 0)).2.1, fun a => if a = 0 then none else mext 0 (fun _ => 0) a, (mG 0 (fun _ => 0)).2.2.2)
def iv6 : List (Int × Int) := List.replicate 6 (-1099511627776, 1099511627776)
theorem ext_n {L a : Nat} {q : Nat × (Nat → Int32)} (h : mGn.2.2.1 a = some q) : a ≠ 0 ∧ (mG L (fun _ => 0)).2.2.1 a = some q := by
  have h : (if a = 0 then none else mext 0 (fun _ => 0) a) = some q := h
  by_cases e : a = 0
  · rw [if_pos e] at h; cases h
  · rw [if_neg e] at h
    refine ⟨e, ?_⟩
    show mext L (fun _ => 0) a = some q
    unfold mext at h ⊢
    rw [if_neg e] at h ⊢
    exact h
theorem irow_n {iv : List (Int × Int)} {L a t : Nat} {h : MH} {q : Nat × (Nat → Value)} (hq : irow iv6 mGn h a t = some q) : irow iv (mG L (fun _ => 0)) h a t = some q := by
  unfold irow at hq ⊢
  by_cases e : a < 8
  · rw [if_pos e] at hq ⊢
    by_cases e2 : t = 0
    · rw [if_pos e2] at hq ⊢
      cases e3 : mGn.2.2.1 a with
      | none => rw [e3] at hq; cases hq
      | some w =>
        obtain ⟨n, f⟩ := w
        obtain ⟨g1, g2⟩ := ext_n (L := L) e3
        rw [e3] at hq
        rw [g2]
        simp only [if_neg g1] at hq ⊢
        exact hq
    · rw [if_neg e2] at hq
      cases hq
  · rw [if_neg e] at hq ⊢
    exact hq
theorem step_ext {iv : List (Int × Int)} {L M pc nx x y : Nat} {i : Instr} {ls : ML} {st : List Value} {h : MH} {z : ST} (h6 : 6 ≤ iv.length) (hs : stepI iv6 mGn M pc i nx x y ls st h = some z) : stepI iv (mG L (fun _ => 0)) M pc i nx x y ls st h = some z := by
  cases i
  all_goals first | exact hs | skip
  case arraylength =>
    unfold stepI at hs ⊢
    cases st with
    | nil => cases hs
    | cons v r =>
      cases v with
      | ref a =>
        simp only [s1r, s1] at hs ⊢
        by_cases e : a < 8
        · rw [if_pos e] at hs ⊢
          cases e3 : mGn.2.2.1 a with
          | none => rw [e3] at hs; cases hs
          | some w =>
            rw [e3] at hs
            rw [(ext_n (L := L) e3).2]
            exact hs
        · rw [if_neg e] at hs ⊢
          exact hs
      | _ => cases hs
  case iaload =>
    unfold stepI at hs ⊢
    cases st with
    | nil => cases hs
    | cons v r =>
      cases v with
      | int q =>
        cases r with
        | nil => cases hs
        | cons v r =>
          cases v with
          | ref a =>
            simp only [s1i, s1r, s1] at hs ⊢
            cases e3 : irow iv6 mGn h a 0 with
            | none => rw [e3] at hs; cases hs
            | some w =>
              rw [e3] at hs
              rw [irow_n e3]
              exact hs
          | _ => cases hs
      | _ => cases hs
  case baload =>
    unfold stepI at hs ⊢
    cases st with
    | nil => cases hs
    | cons v r =>
      cases v with
      | int q =>
        cases r with
        | nil => cases hs
        | cons v r =>
          cases v with
          | ref a =>
            simp only [s1i, s1r, s1] at hs ⊢
            cases e3 : irow iv6 mGn h a x with
            | none => rw [e3] at hs; cases hs
            | some w =>
              rw [e3] at hs
              rw [irow_n e3]
              exact hs
          | _ => cases hs
      | _ => cases hs
  case iinc k n =>
    unfold stepI at hs ⊢
    simp only at hs ⊢
    cases e : lkl ls k with
    | none => rw [e] at hs; cases hs
    | some v =>
      rw [e] at hs
      cases v with
      | int a => exact hs
      | retAddr j =>
        simp only at hs
        obtain ⟨h1, -⟩ := if_ok hs
        simp only [Bool.and_eq_true, decide_eq_true_eq] at h1
        exact absurd h1.2.2.2 (by decide)
      | _ => cases hs
  case iand =>
    unfold stepI at hs ⊢
    cases st with
    | nil => cases hs
    | cons v r =>
      cases r with
      | nil => cases v <;> cases hs
      | cons w r =>
        cases v with
        | int a =>
          cases w with
          | int b => exact hs
          | retAddr j =>
            have hs : (if decide (j < 4) && (decide (a = 63) && decide (iv6.length ≤ 5)) then okk nx ls (.retAddr (j + 4) :: r) h else none) = some z := hs
            obtain ⟨h1, -⟩ := if_ok hs
            simp only [Bool.and_eq_true, decide_eq_true_eq] at h1
            exact absurd h1.2.2 (by decide)
          | _ => cases hs
        | retAddr j => cases w <;> cases hs
        | _ => cases hs
  case invokevirtual k =>
    unfold stepI at hs ⊢
    simp only at hs ⊢
    by_cases e1 : x = 9001
    · rw [if_pos e1] at hs ⊢
      cases st with
      | nil => cases hs
      | cons v r =>
        cases v with
        | int q =>
          cases r with
          | nil => cases hs
          | cons v r =>
            cases v with
            | ref a =>
              simp only [s1i, s1r, s1] at hs ⊢
              obtain ⟨g, hs⟩ := if_ok hs
              rw [if_pos g]
              cases e3 : mGn.2.2.1 a with
              | none => rw [e3] at hs; cases hs
              | some w =>
                rw [e3] at hs
                rw [(ext_n (L := L) e3).2]
                exact hs
            | _ => cases hs
        | _ => cases hs
    · rw [if_neg e1] at hs ⊢
      by_cases e2 : x = 9002
      · rw [if_pos e2] at hs ⊢
        cases st with
        | nil => cases hs
        | cons v r =>
          cases v with
          | ref a =>
            simp only [s1r, s1] at hs ⊢
            obtain ⟨g, hs⟩ := if_ok hs
            rw [if_pos g]
            cases e3 : mGn.2.2.1 a with
            | none => rw [e3] at hs; cases hs
            | some w =>
              rw [e3] at hs
              rw [(ext_n (L := L) e3).2]
              exact hs
          | _ => cases hs
      · rw [if_neg e2] at hs ⊢
        exact hs
/-- a condition that these bounds decide is of two ints, or of one of the script's with itself -/
theorem lh6 {v : Value} {a b : Int} (h : lohi iv6 v = some (a, b)) : (∃ z : Int32, v = .int z ∧ a = z.toInt ∧ b = z.toInt) ∨ (∃ j, v = .retAddr j ∧ j < 6 ∧ a = -1099511627776 ∧ b = 1099511627776) := by
  cases v with
  | int z =>
    have h : some (z.toInt, z.toInt) = some (a, b) := h
    injection h with h
    injection h with h1 h2
    exact Or.inl ⟨z, rfl, h1.symm, h2.symm⟩
  | retAddr j =>
    have h : iv6[j]? = some (a, b) := h
    have hl := (List.getElem?_eq_some_iff.mp h).1
    have hl : j < 6 := hl
    have hm := List.mem_of_getElem? h
    have := List.eq_of_mem_replicate hm
    injection this with h1 h2
    exact Or.inr ⟨j, rfl, hl, h1, h2⟩
  | _ => cases h
end
section
/-! .. and whole runs. -/
theorem ent6 {n : Nat} {v w : Value} (h : ent iv6 (n, v, w) = true) : (∃ a b : Int32, v = .int a ∧ w = .int b) ∨ (n = 0 ∧ v = w ∧ ∃ j, j < 6 ∧ v = .retAddr j) := by
  unfold ent at h
  simp only at h
  cases e1 : lohi iv6 v with
  | none => rw [e1] at h; cases h
  | some p =>
    cases e2 : lohi iv6 w with
    | none => rw [e1, e2] at h; cases h
    | some q =>
      obtain ⟨a, b⟩ := p
      obtain ⟨u, y⟩ := q
      rw [e1, e2] at h
      simp only at h
      have g1 := lh6 e1
      have g2 := lh6 e2
      have o1 : ∀ z : Int32, -2147483648 ≤ z.toInt ∧ z.toInt ≤ 2147483647 := fun z => (i32_ok z).2
      rcases g1 with ⟨z1, rfl, rfl, rfl⟩ | ⟨j1, rfl, l1, rfl, rfl⟩
      · rcases g2 with ⟨z2, rfl, rfl, rfl⟩ | ⟨j2, rfl, l2, rfl, rfl⟩
        · exact Or.inl ⟨z1, z2, rfl, rfl⟩
        · exfalso
          have := o1 z1
          split at h
          · simp at h
          · simp at h; omega
          · simp at h; omega
          · simp at h; omega
          · simp at h; omega
          · simp at h; omega
          · cases h
      · rcases g2 with ⟨z2, rfl, rfl, rfl⟩ | ⟨j2, rfl, l2, rfl, rfl⟩
        · exfalso
          have := o1 z2
          split at h
          · simp at h
          · simp at h; omega
          · simp at h; omega
          · simp at h; omega
          · simp at h; omega
          · simp at h; omega
          · cases h
        · split at h
          · simp at h
            exact Or.inr ⟨rfl, by rw [h], j1, l1, rfl⟩
          · simp at h
          · simp at h
          · simp at h
          · simp at h
          · simp at h
          · cases h
/-- the shapes of a branch -/
def altS (alts : List (CD × Nat)) : Prop := (∃ n v w x y, alts = [((n, v, w), x), ((cno n, v, w), y)]) ∨ ∃ v, ∀ q ∈ alts, q.1.2.1 = v ∧ ∃ z, q.1.2.2 = .int z
theorem sw_alts {v : Value} : ∀ (offs : List Nat) (lo : Int) (q : CD × Nat), q ∈ swAlts v lo offs → q.1.2.1 = v ∧ ∃ z, q.1.2.2 = .int z := by
  intro offs
  induction offs with
  | nil => intro lo q h; cases h
  | cons o r ih =>
    intro lo q h
    rcases List.mem_cons.mp h with rfl | h
    · exact ⟨rfl, _, rfl⟩
    · exact ih _ q h
theorem find_cg {α : Type} {p q : α → Bool} : ∀ (l : List α), (∀ x ∈ l, p x = q x) → l.find? p = l.find? q := by
  intro l
  induction l with
  | nil => intro _; rfl
  | cons a r ih =>
    intro h
    rw [List.find?_cons, List.find?_cons, h a (List.mem_cons_self ..), ih (fun x hx => h x (List.mem_cons_of_mem _ hx))]
theorem find_ext {iv : List (Int × Int)} (hI : ∀ j, j < 6 → ∃ a, iv[j]? = some (a, a)) {alts : List (CD × Nat)} (hS : altS alts) {q : CD × Nat} (h : alts.find? (fun q => ent iv6 q.1) = some q) : alts.find? (fun q => ent iv q.1) = some q := by
  have ints : ∀ (n : Nat) (a b : Int32), ent iv6 (n, .int a, .int b) = ent iv (n, .int a, .int b) := fun _ _ _ => rfl
  have sy0 : ∀ j, j < 6 → ent iv (0, .retAddr j, .retAddr j) = true := fun j hj => by
    obtain ⟨a, ha⟩ := hI j hj
    unfold ent
    have e : lohi iv (.retAddr j) = some (a, a) := ha
    simp only [e]
    simp
  have sy1 : ∀ j, j < 6 → ent iv (1, .retAddr j, .retAddr j) = false := fun j hj => by
    obtain ⟨a, ha⟩ := hI j hj
    unfold ent
    have e : lohi iv (.retAddr j) = some (a, a) := ha
    simp only [e]
    simp
  rcases hS with ⟨n, v, w, x, y, rfl⟩ | ⟨v, hv⟩
  · rw [List.find?_cons] at h ⊢
    cases e : ent iv6 (n, v, w) with
    | true =>
      have h : some ((n, v, w), x) = some q := by
        simp only [e] at h
        exact h
      rw [← h]
      have e' : ent iv (n, v, w) = true := by
        rcases ent6 e with ⟨a, b, rfl, rfl⟩ | ⟨rfl, rfl, j, hj, rfl⟩
        · rw [← ints]; exact e
        · exact sy0 j hj
      simp only [e']
    | false =>
      simp only [e] at h
      rw [List.find?_cons] at h
      cases e2 : ent iv6 (cno n, v, w) with
      | false => simp only [e2] at h; cases h
      | true =>
        have h : some ((cno n, v, w), y) = some q := by
          simp only [e2] at h
          exact h
        rw [← h]
        have e' : ent iv (n, v, w) = false ∧ ent iv (cno n, v, w) = true := by
          rcases ent6 e2 with ⟨a, b, rfl, rfl⟩ | ⟨hn, rfl, j, hj, rfl⟩
          · rw [← ints, ← ints]; exact ⟨e, e2⟩
          · have hn1 : n = 1 := by
              unfold cno at hn
              split at hn
              · cases hn
              · rfl
              · cases hn
              · cases hn
              · cases hn
              · cases hn
            rw [hn, hn1]
            exact ⟨sy1 j hj, sy0 j hj⟩
        simp only [e'.1]
        rw [List.find?_cons]
        simp only [e'.2]
  · have hm := List.mem_of_find?_eq_some h
    have ht := List.find?_some h
    obtain ⟨g1, z, g2⟩ := hv q hm
    have ht : ent iv6 (q.1.1, q.1.2.1, q.1.2.2) = true := ht
    rw [g1, g2] at ht
    rcases ent6 ht with ⟨a, b, hva, -⟩ | ⟨-, hvw, j, -, hvj⟩
    · rw [← find_cg alts (p := fun q => ent iv6 q.1) (fun c hc => ?_)]
      · exact h
      · obtain ⟨k1, z2, k2⟩ := hv c hc
        show ent iv6 (c.1.1, c.1.2.1, c.1.2.2) = ent iv (c.1.1, c.1.2.1, c.1.2.2)
        rw [k1, k2, hva]
        exact ints _ _ _
    · rw [hvw] at hvj
      cases hvj
end
section
/-! .. runs. -/
theorem ko_only {nx : Nat} {ls : ML} {st : List Value} {h : MH} {z : ST} (e : okk nx ls st h = some z) : ∃ q, z = .inl q := by
  unfold okk at e
  cases e
  exact ⟨_, rfl⟩
section
variable {iv : List (Int × Int)} {G : GI} {M pc nx x y : Nat} {i : Instr} {ls : ML} {st : List Value} {h : MH} {z : ST}
theorem ko_on (hk : ikd i = 0) (hz : stepI iv G M pc i nx x y ls st h = some z) : ∃ q, z = .inl q := by
  cases i <;> first
    | (exact absurd (show (1 : Nat) = 0 from hk) (by decide)) | (exact absurd (show (2 : Nat) = 0 from hk) (by decide)) | (exact absurd (show (3 : Nat) = 0 from hk) (by decide)) | (exact absurd (show (4 : Nat) = 0 from hk) (by decide))
    | (exact ko_only hz)
    | (cases hz; exact ⟨_, rfl⟩)
    | (simp only [stepI, stload, ststore1, ststore2, s2i, s2l, s1i, s1l, s1r, s1n, s1] at hz
       repeat' split at hz
       all_goals first | (cases hz; done) | (exact ko_only hz) | (cases hz; exact ⟨_, rfl⟩))
theorem ko_rt (hk : ikd i = 2) (hz : stepI iv G M pc i nx x y ls st h = some z) : ∃ v, z = .inr (.inr (.inl v)) := by
  cases i <;> first
    | (exact absurd (show (0 : Nat) = 2 from hk) (by decide)) | (exact absurd (show (1 : Nat) = 2 from hk) (by decide)) | (exact absurd (show (3 : Nat) = 2 from hk) (by decide)) | (exact absurd (show (4 : Nat) = 2 from hk) (by decide))
    | (simp only [stepI] at hz
       repeat' split at hz
       all_goals first | (cases hz; done) | (cases hz; exact ⟨_, rfl⟩))
theorem ko_no (hk : ikd i = 4) (hz : stepI iv G M pc i nx x y ls st h = some z) : False := by
  cases i <;> first
    | (exact absurd (show (0 : Nat) = 4 from hk) (by decide)) | (exact absurd (show (1 : Nat) = 4 from hk) (by decide)) | (exact absurd (show (2 : Nat) = 4 from hk) (by decide)) | (exact absurd (show (3 : Nat) = 4 from hk) (by decide))
    | (cases hz; done)
theorem ko_ca {w : List (CD × Nat) × ML × List Value} (hk : ikd i = 3) : ¬ stepI iv G M pc i nx x y ls st h = some (.inr (.inr (.inr w))) := by
  intro hz
  cases i <;> first
    | (exact absurd (show (0 : Nat) = 3 from hk) (by decide)) | (exact absurd (show (1 : Nat) = 3 from hk) (by decide)) | (exact absurd (show (2 : Nat) = 3 from hk) (by decide)) | (exact absurd (show (4 : Nat) = 3 from hk) (by decide))
    | (simp only [stepI, okk, s2i, s1i, s1r, s1n, s1] at hz
       repeat' split at hz
       all_goals (cases hz; done))
theorem kd_in : ikd i ≤ 4 := by
  cases i <;> exact Nat.le_of_ble_eq_true rfl
theorem kd_br {w : List (CD × Nat) × ML × List Value} (hz : stepI iv G M pc i nx x y ls st h = some (.inr (.inr (.inr w)))) : ikd i = 1 := by
  have := kd_in (i := i)
  rcases (show ikd i = 0 ∨ ikd i = 1 ∨ ikd i = 2 ∨ ikd i = 3 ∨ ikd i = 4 by omega) with e | e | e | e | e
  · obtain ⟨q, hq⟩ := ko_on e hz
    cases hq
  · exact e
  · obtain ⟨q, hq⟩ := ko_rt e hz
    cases hq
  · exact absurd hz (ko_ca e)
  · exact (ko_no e hz).elim
end
theorem step_alts {iv : List (Int × Int)} {G : GI} {M pc nx x y : Nat} {i : Instr} {ls ls' : ML} {st st' : List Value} {h : MH} {alts : List (CD × Nat)} (hk : ikd i = 1) (hs : stepI iv G M pc i nx x y ls st h = some (.inr (.inr (.inr (alts, ls', st'))))) : altS alts := by
  cases i
  case ifCond c k =>
    unfold stepI at hs
    cases st with
    | nil => cases hs
    | cons v r =>
      simp only [s1n, s1] at hs
      obtain ⟨-, hs⟩ := if_ok hs
      unfold brr at hs
      injection hs with hs
      injection hs with hs
      injection hs with hs
      injection hs with hs
      injection hs with h1 h2
      exact Or.inl ⟨_, _, _, _, _, h1.symm⟩
  case if_icmp c k =>
    unfold stepI at hs
    cases st with
    | nil => cases hs
    | cons v r =>
      simp only [s1n, s1] at hs
      obtain ⟨-, hs⟩ := if_ok hs
      cases r with
      | nil => cases hs
      | cons w r =>
        simp only at hs
        obtain ⟨-, hs⟩ := if_ok hs
        unfold brr at hs
        injection hs with hs
        injection hs with hs
        injection hs with hs
        injection hs with hs
        injection hs with h1 h2
        exact Or.inl ⟨_, _, _, _, _, h1.symm⟩
  case tableswitch d lo hi offs =>
    unfold stepI at hs
    cases st with
    | nil => cases hs
    | cons v r =>
      simp only [s1n, s1] at hs
      obtain ⟨-, hs⟩ := if_ok hs
      obtain ⟨-, hs⟩ := if_ok hs
      injection hs with hs
      injection hs with hs
      injection hs with hs
      injection hs with hs
      injection hs with h1 h2
      refine Or.inr ⟨v, fun q hq => ?_⟩
      rw [← h1] at hq
      rcases List.mem_cons.mp hq with rfl | hq
      · exact ⟨rfl, _, rfl⟩
      · rcases List.mem_cons.mp hq with rfl | hq
        · exact ⟨rfl, _, rfl⟩
        · exact sw_alts _ _ q hq
  all_goals first | exact absurd (show (0 : Nat) = 1 from hk) (by decide) | exact absurd (show (2 : Nat) = 1 from hk) (by decide) | exact absurd (show (3 : Nat) = 1 from hk) (by decide) | exact absurd (show (4 : Nat) = 1 from hk) (by decide)
/-- a run without the script is a run with any -/
theorem run_ext {iv : List (Int × Int)} {L : Nat} (h6 : 6 ≤ iv.length) (hI : ∀ j, j < 6 → ∃ a, iv[j]? = some (a, a)) : ∀ (f d M pc : Nat) (ls : ML) (st : List Value) (h : MH) (k n : Nat) (r : Option Value × MH × Nat × Nat), mrun iv6 mGn f d M pc ls st h k n = some r → mrun iv (mG L (fun _ => 0)) f d M pc ls st h k n = some r := by
  intro f
  induction f with
  | zero => intro d M pc ls st h k n r hr; rw [mrun_0] at hr; cases hr
  | succ f ih =>
    intro d M pc ls st h k n r hr
    rw [mrun_s] at hr ⊢
    cases hst : mstep iv6 mGn M pc ls st h with
    | none => rw [hst] at hr; cases hr
    | some z =>
      have hst2 : mstep iv (mG L (fun _ => 0)) M pc ls st h = some z ∧ ∀ alts ls' st', z = .inr (.inr (.inr (alts, ls', st'))) → altS alts := by
        unfold mstep at hst ⊢
        have e0 : (mG L (fun _ => 0)).1 M pc = mGn.1 M pc := rfl
        rw [e0]
        cases e : mGn.1 M pc with
        | none => rw [e] at hst; cases hst
        | some q =>
          obtain ⟨i, nx, x, y⟩ := q
          rw [e] at hst
          exact ⟨step_ext h6 hst, fun alts ls' st' hz => by
            have hst : stepI iv6 mGn M pc i nx x y ls st h = some z := hst
            rw [hz] at hst
            exact step_alts (kd_br hst) hst⟩
      rw [hst] at hr
      rw [hst2.1]
      rcases z with ⟨pc', ls', st', h1, dk, dn⟩ | ⟨y, as, r1, pc'⟩ | w | ⟨alts, ls', st'⟩
      · exact ih _ _ _ _ _ _ _ _ _ hr
      · obtain ⟨hc, hr⟩ := if_ok hr
        have hc : (decide (mwid r1 ≤ 8) && (decide (mwid as ≤ (mG L (fun _ => 0)).2.1 y) && decide ((mG L (fun _ => 0)).2.1 y ≤ 21))) = true := hc
        simp only [if_pos hc]
        cases d with
        | zero => cases hr
        | succ d =>
          simp only at hr ⊢
          cases hcal : mrun iv6 mGn f d y 0 (ment 0 as) [] h 0 0 with
          | none => rw [hcal] at hr; cases hr
          | some q =>
            rw [hcal] at hr
            rw [ih d _ _ _ _ _ _ _ _ hcal]
            obtain ⟨v1, h1, k1, n1⟩ := q
            exact ih _ _ _ _ _ _ _ _ _ hr
      · exact hr
      · simp only at hr ⊢
        cases hfind : alts.find? (fun q => ent iv6 q.1) with
        | none => rw [hfind] at hr; cases hr
        | some q =>
          rw [hfind] at hr
          rw [find_ext hI (hst2.2 _ _ _ rfl) hfind]
          exact ih _ _ _ _ _ _ _ _ _ hr
end
section
/-! Both constructors, for any script. -/
def meqB (a b : ME) : Bool := match a, b with
  | .inl (t, n, .inl f), .inl (t2, n2, .inl f2) => decide (t = t2) && (decide (n = n2) && decide (f = f2))
  | .inl (t, n, .inr f), .inl (t2, n2, .inr f2) => decide (t = t2) && (decide (n = n2) && decide (f = f2))
  | .inr (c, fs), .inr (c2, fs2) => decide (c = c2) && decide (fs = fs2)
  | _, _ => false
theorem meqB_ok {a b : ME} (h : meqB a b = true) : a = b := by
  unfold meqB at h
  split at h
  · simp only [Bool.and_eq_true, decide_eq_true_eq] at h
    obtain ⟨rfl, rfl, rfl⟩ := h
    rfl
  · simp only [Bool.and_eq_true, decide_eq_true_eq] at h
    obtain ⟨rfl, rfl, rfl⟩ := h
    rfl
  · simp only [Bool.and_eq_true, decide_eq_true_eq] at h
    obtain ⟨rfl, rfl⟩ := h
    rfl
  · cases h
def leqB (a b : List ME) : Bool := match a, b with
  | [], [] => true
  | x :: r, y :: t => meqB x y && leqB r t
  | _, _ => false
theorem leqB_ok : ∀ {a b : List ME}, leqB a b = true → a = b := by
  intro a
  induction a with
  | nil => intro b h; cases b with
    | nil => rfl
    | cons _ _ => cases h
  | cons x r ih => intro b h; cases b with
    | nil => cases h
    | cons y t =>
      have h : (meqB x y && leqB r t) = true := h
      simp only [Bool.and_eq_true] at h
      rw [meqB_ok h.1, ih h.2]
def rqB (r : Option (Option Value × MH × Nat × Nat)) (h : MH) (k n : Nat) : Bool := match r with
  | some (none, h1, k1, n1) => decide (h1.1 = h.1) && (leqB h1.2 h.2 && (decide (k1 = k) && decide (n1 = n)))
  | _ => false
theorem rqB_ok {r : Option (Option Value × MH × Nat × Nat)} {h : MH} {k n : Nat} (e : rqB r h k n = true) : r = some (none, h, k, n) := by
  unfold rqB at e
  split at e
  · rename_i h1 k1 n1
    obtain ⟨u, w⟩ := h1
    obtain ⟨u2, w2⟩ := h
    simp only [Bool.and_eq_true, decide_eq_true_eq] at e
    obtain ⟨rfl, e2, rfl, rfl⟩ := e
    rw [leqB_ok e2]
  · cases e
theorem ctx_n : rqB (mrun iv6 mGn 20000 29 1 0 [(0, .ref 64)] [] (65, [.inr (0, bls.getD 0 [])]) 0 0) HX0 242 24762 = true := by decide +kernel
theorem ctm_n : rqB (mrun iv6 mGn 20000 29 59 0 [(0, .ref 307)] [] (mpush HX0 (.inr (12, bls.getD 12 []))) 0 0) HM0 45 119792 = true := by decide +kernel
theorem ctor_x {iv : List (Int × Int)} {L : Nat} (h6 : 6 ≤ iv.length) (hI : ∀ j, j < 6 → ∃ a, iv[j]? = some (a, a)) : mrun iv (mG L (fun _ => 0)) 20000 29 1 0 [(0, .ref 64)] [] (65, [.inr (0, bls.getD 0 [])]) 0 0 = some (none, HX0, 242, 24762) := run_ext h6 hI _ _ _ _ _ _ _ _ _ _ (rqB_ok ctx_n)
theorem ctor_m {iv : List (Int × Int)} {L : Nat} (h6 : 6 ≤ iv.length) (hI : ∀ j, j < 6 → ∃ a, iv[j]? = some (a, a)) : mrun iv (mG L (fun _ => 0)) 20000 29 59 0 [(0, .ref 307)] [] (mpush HX0 (.inr (12, bls.getD 12 []))) 0 0 = some (none, HM0, 45, 119792) := run_ext h6 hI _ _ _ _ _ _ _ _ _ _ (rqB_ok ctm_n)
end
section
/-! The law's own steps: the state is the heap as it is, with cells and slots made. -/
abbrev CS : Type := MH × Nat × Nat
def RpK (S : CS) (h : MH) : Prop := h = S.1
def csK (S : CS) : Nat × Nat := S.2
/-- the script's ints as bounds -/
def ivS (L : Nat) (xs : Nat → Int32) : List (Int × Int) := (List.range (max L 6)).map (fun j => ((xs j).toInt, (xs j).toInt))
theorem ivS_at {L j : Nat} {xs : Nat → Int32} (h : j < max L 6) : (ivS L xs)[j]? = some ((xs j).toInt, (xs j).toInt) := by
  unfold ivS
  rw [List.getElem?_map, List.getElem?_range h]
  rfl
theorem ivS_len {L : Nat} {xs : Nat → Int32} : (ivS L xs).length = max L 6 := by unfold ivS; rw [List.length_map, List.length_range]
theorem ivS_6 {L : Nat} {xs : Nat → Int32} : 6 ≤ (ivS L xs).length ∧ ∀ j, j < 6 → ∃ a, (ivS L xs)[j]? = some (a, a) := ⟨by rw [ivS_len]; exact Nat.le_max_right _ _, fun j hj => ⟨_, ivS_at (Nat.lt_of_lt_of_le hj (Nat.le_max_right _ _))⟩⟩
section
variable {S : Type} {iv : List (Int × Int)} {L : Nat} {Rp : S → MH → Prop} {cs : S → Nat × Nat} {d M pc nx x y : Nat} {ls : LV} {st : List VV} {s : S} {Q : Option VV → S → Prop} {xs : Nat → Int32}
theorem w_len0 (hL : L ≤ 2048) (he : (mG L (fun _ => 0)).1 M pc = some (.arraylength, nx, x, y)) (hw : wp iv L Rp cs d M nx ls (vi L :: st) s Q) : wp iv L Rp cs d M pc ls (vr 0 :: st) s Q :=
  wp_os he (fun _ h2 => ⟨okS_ci (by unfold inR; omega) (okS_t h2), fun h lc _ => by
    show okk nx lc (.int (Int32.ofNat L) :: ems st) h = some (Sum.inl (nx, lc, .int (Int32.ofInt (L : Int)) :: ems st, h, 0, 0))
    rw [Int32.ofInt_eq_ofNat]
    rfl⟩) hw
theorem w_scr {i : Int} (he : (mG L (fun _ => 0)).1 M pc = some (.iaload, nx, x, y)) (hi : 0 ≤ i ∧ i < L) (hw : wp (ivS L xs) L Rp cs d M nx ls (vi (xs i.toNat).toInt :: st) s Q) : wp (ivS L xs) L Rp cs d M pc ls (vi i :: vr 0 :: st) s Q :=
  wp_os he (fun _ h2 => ⟨okS_ci (i32_ok _).2 (okS_t (okS_t h2)), fun h lc _ => by
    have hr := okS_h h2
    show (if vin (Int32.ofInt i) L && isI (symv (ivS L xs) (Int32.ofInt i).toNatClampNeg) then okk nx lc (symv (ivS L xs) (Int32.ofInt i).toNatClampNeg :: ems st) h else none) = _
    have e : symv (ivS L xs) i.toNat = .int (Int32.ofInt (xs i.toNat).toInt) := by
      unfold symv
      rw [ivS_at (by have := Nat.le_max_left L 6; omega)]
      simp
    rw [i_cl hr, e, i_vin hr hi.1 hi.2]
    rfl⟩) hw
theorem w_and63 {a : Int} (he : (mG L (fun _ => 0)).1 M pc = some (.iand, nx, x, y)) (hw : wp iv L Rp cs d M nx ls (vi (Int32.ofInt a &&& 63).toInt :: st) s Q) : wp iv L Rp cs d M pc ls (vi 63 :: vi a :: st) s Q :=
  wp_os he (fun _ h2 => ⟨okS_ci (i32_ok _).2 (okS_t (okS_t h2)), fun h lc _ => by
    show okk nx lc (.int (Int32.ofInt a &&& Int32.ofInt 63) :: ems st) h = some (Sum.inl (nx, lc, .int (Int32.ofInt (Int32.ofInt a &&& 63).toInt) :: ems st, h, 0, 0))
    rw [(i32_ok _).1]
    rfl⟩) hw
theorem w_pop2 {z : Int} (he : (mG L (fun _ => 0)).1 M pc = some (.pop2, nx, x, y)) (hw : wp iv L Rp cs d M nx ls st s Q) : wp iv L Rp cs d M pc ls (vl z :: st) s Q :=
  wp_os he (fun _ h2 => ⟨okS_t h2, fun h lc _ => rfl⟩) hw
end
theorem cnz_all {f : Int → Nat} (h : ∀ i, f i = 2) : ∀ n : Nat, cnz f n = n := by
  intro n
  induction n with
  | zero => rfl
  | succ n ih =>
    show cnz f n + (if f n = 2 then 1 else 0) = n + 1
    rw [ih, if_pos (h n)]
theorem PHI00 : PHI c00 = 1880 := by
  unfold PHI
  rw [cnz_all (nilC_ok (by decide +kernel)), cnz_all (nilC_ok (by decide +kernel)), cnz_all (nilC_ok (by decide +kernel)), cnz_all (nilC_ok (by decide +kernel))]
end
section
/-! A call by the law, of an object, by its run. -/
section
variable {iv : List (Int × Int)} {L : Nat} {d M pc nx x y : Nat} {ls : LV} {st : List VV} {Q : Option VV → CS → Prop}
theorem law_virt {n p f k n0 k1 n1 : Nat} {H h1 : MH} {ci : Nat} {fs : List Value} {as r : List VV} {w1 : Option VV} (he : (mG L (fun _ => 0)).1 M pc = some (.invokevirtual n, nx, x, y)) (hx : (Nat.beq x 9001 || Nat.beq x 9002) = false) (hs : st = as.reverse ++ (vr p :: r)) (hy : y = as.length) (hp : p ≠ 2) (hg : mget H p = some (.inr (ci, fs))) (hc : ci = (mG L (fun _ => 0)).2.2.2.2.2.2 x) (hm : (Nat.ble (r.map cat2).sum 8 && (Nat.ble ((vr p :: as).map cat2).sum ((mG L (fun _ => 0)).2.1 x) && Nat.ble ((mG L (fun _ => 0)).2.1 x) 21)) = true) (run : mrun iv (mG L (fun _ => 0)) f d x 0 (ment 0 (ems (vr p :: as))) [] H 0 0 = some (w1.map emb, h1, k1, n1)) (ok : ∀ w, w1 = some w → okV w) (hw : wp iv L RpK csK (d + 1) M nx ls (w1.toList ++ r) (h1, k + k1, n0 + n1) Q) : wp iv L RpK csK (d + 1) M pc ls st (H, k, n0) Q := by
  intro g1 g2 H0 lc hl hr
  have hr : H0 = H := hr
  subst hr
  subst hs
  have h4 : okS r := fun w hw => g2 w (List.mem_append_right _ (List.mem_cons_of_mem _ hw))
  have h5 : okS (w1.toList ++ r) := fun w hw => by
    rcases List.mem_append.mp hw with h | h
    · exact ok w (by cases w1 with
        | none => cases h
        | some u => rw [List.mem_singleton.mp h])
    · exact h4 w h
  obtain ⟨f2, v2, h2', k2, n2, s2, p1, p2, p3, p4, p5, p6⟩ := hw g1 h5 h1 lc hl rfl
  simp only [Bool.and_eq_true] at hm
  have hz : stepI iv (mG L (fun _ => 0)) M pc (.invokevirtual n) nx x y lc (ems (as.reverse ++ (vr p :: r))) H0 = some (.inr (.inl (x, ems (vr p :: as), ems r, nx))) := by
    subst hy
    have q1 : ¬ x = 9001 := by intro h; rw [h] at hx; cases hx
    have q2 : ¬ x = 9002 := by intro h; rw [h] at hx; cases hx
    have hl : (ems as.reverse).length = as.length := by simp [ems]
    have e0 : ems (as.reverse ++ (vr p :: r)) = ems as.reverse ++ (Value.ref p :: ems r) := by
      unfold ems
      rw [List.map_append, List.map_cons, emb_r hp]
    show (if x = 9001 then _ else if x = 9002 then _ else match (ems (as.reverse ++ (vr p :: r))).drop as.length with
      | .ref b :: r1 => (match mget H0 b with
        | some (.inr (ci, _)) => if ci = (mG L (fun _ => 0)).2.2.2.2.2.2 x then some (Sum.inr (Sum.inl (x, Value.ref b :: ((ems (as.reverse ++ (vr p :: r))).take as.length).reverse, r1, nx))) else none
        | _ => none)
      | _ => none) = _
    rw [if_neg q1, if_neg q2, e0, ← hl, List.take_left, List.drop_left]
    simp only
    rw [hg]
    simp only
    rw [if_pos hc]
    have e1 : ems (vr p :: as) = Value.ref p :: ems as := by
      unfold ems
      rw [List.map_cons, emb_r hp]
    rw [e1]
    simp [ems]
  refine ⟨max f f2 + 1, v2, h2', k1 + k2, n1 + n2, s2, ?_, p2, p3, by have p4 : k + k1 + k2 = s2.2.1 := p4; show k + (k1 + k2) = s2.2.1; omega, by have p5 : n0 + n1 + n2 = s2.2.2 := p5; show n0 + (n1 + n2) = s2.2.2; omega, p6⟩
  rw [mrun_s]
  unfold mstep
  rw [he]
  simp only
  rw [hz]
  simp only
  rw [if_pos (by rw [mwid_em, mwid_em]; simp only [Bool.and_eq_true, decide_eq_true_eq]; exact ⟨Nat.le_of_ble_eq_true hm.1, Nat.le_of_ble_eq_true hm.2.1, Nat.le_of_ble_eq_true hm.2.2⟩)]
  rw [mrun_f f (max f f2) d d _ _ _ _ _ _ _ _ (Nat.le_max_left ..) (Nat.le_refl _) run]
  have p7 := mrun_k _ _ _ _ _ _ _ _ _ _ _ _ _ k1 n1 (mrun_f f2 (max f f2) (d + 1) (d + 1) _ _ _ _ _ _ _ _ (Nat.le_max_right ..) (Nat.le_refl _) p1)
  simp only [Nat.add_zero, Nat.zero_add] at p7 ⊢
  rw [← p7]
  congr 1
  unfold ems
  cases w1 <;> rfl
end
end
