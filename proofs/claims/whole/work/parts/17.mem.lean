/-! THE MEMORY behind the constructors: printed by wip/whole/gen17.py. A cell: its shape and its slots; a slot that never changes again has its number -/
abbrev Mm : Type := Int → Int → Int
abbrev aT : Type := Nat × List (Option Int)
def umem (m : Mm) (x k v : Int) : Mm := fun x' k' => if x' = x ∧ k' = k then v else m x' k'
def tN (sh n : Nat) : aT := (sh, List.replicate n none)
def tR (sh : Nat) (l : List Int) : aT := (sh, l.map some)
def tO (sh : Nat) (l : List Int) : aT := (sh, l.map fun v => if v = 0 then none else some v)
def TmL_0 : List aT := [tO 31 [2, 0, 3, 0, 0, 0, 0, 280, 284, 370, 411, 461, 511, 546, 581, 595, 596, 0], tN 0 900, tO 28 [0, 0, 4, 0, 0, 0, 0, 0, 0, 0], tN 2 3, tN 0 0, tO 30 [7, 8, 9, 10, 11, 0, 0, 0, 0, 0], tR 3 [12, 14, 16, 18, 20, 22, 24, 26, 28, 30, 32, 34, 36, 38, 40, 42, 44, 46, 48, 50, 52, 54, 56, 58], tR 4 [60, 62, 64, 66, 68, 70, 72, 74, 76, 78, 80, 82, 84, 86, 88, 90, 92, 94, 96, 98, 100, 102, 104, 106], tN 2 25, tN 2 25, tN 0 25, tO 27 [13, 0, 0, 0, 0, 0, 0, 0], tN 0 6, tO 27 [15, 0, 0, 0, 0, 0, 0, 0], tN 0 6, tO 27 [17, 0, 0, 0, 0, 0, 0, 0], tN 0 6, tO 27 [19, 0, 0, 0, 0, 0, 0, 0], tN 0 6, tO 27 [21, 0, 0, 0, 0, 0, 0, 0], tN 0 6, tO 27 [23, 0, 0, 0, 0, 0, 0, 0], tN 0 6, tO 27 [25, 0, 0, 0, 0, 0, 0, 0], tN 0 6, tO 27 [27, 0, 0, 0, 0, 0, 0, 0], tN 0 6, tO 27 [29, 0, 0, 0, 0, 0, 0, 0], tN 0 6, tO 27 [31, 0, 0, 0, 0, 0, 0, 0], tN 0 6, tO 27 [33, 0, 0, 0, 0, 0, 0, 0], tN 0 6, tO 27 [35, 0, 0, 0, 0, 0, 0, 0], tN 0 6, tO 27 [37, 0, 0, 0, 0, 0, 0, 0], tN 0 6, tO 27 [39, 0, 0, 0, 0, 0, 0, 0], tN 0 6, tO 27 [41, 0, 0, 0, 0, 0, 0, 0], tN 0 6, tO 27 [43, 0, 0, 0, 0, 0, 0, 0], tN 0 6, tO 27 [45, 0, 0, 0, 0, 0, 0, 0], tN 0 6, tO 27 [47, 0, 0, 0, 0, 0, 0, 0], tN 0 6, tO 27 [49, 0, 0, 0, 0, 0, 0, 0], tN 0 6, tO 27 [51, 0, 0, 0, 0, 0, 0, 0]]
def TmL_1 : List aT := [tN 0 6, tO 27 [53, 0, 0, 0, 0, 0, 0, 0], tN 0 6, tO 27 [55, 0, 0, 0, 0, 0, 0, 0], tN 0 6, tO 27 [57, 0, 0, 0, 0, 0, 0, 0], tN 0 6, tO 27 [59, 0, 0, 0, 0, 0, 0, 0], tN 0 6, tO 21 [61, 0, 0, 0], tN 0 8, tO 21 [63, 0, 0, 0], tN 0 8, tO 21 [65, 0, 0, 0], tN 0 8, tO 21 [67, 0, 0, 0], tN 0 8, tO 21 [69, 0, 0, 0], tN 0 8, tO 21 [71, 0, 0, 0], tN 0 8, tO 21 [73, 0, 0, 0], tN 0 8, tO 21 [75, 0, 0, 0], tN 0 8, tO 21 [77, 0, 0, 0], tN 0 8, tO 21 [79, 0, 0, 0], tN 0 8, tO 21 [81, 0, 0, 0], tN 0 8, tO 21 [83, 0, 0, 0], tN 0 8, tO 21 [85, 0, 0, 0], tN 0 8, tO 21 [87, 0, 0, 0], tN 0 8, tO 21 [89, 0, 0, 0], tN 0 8, tO 21 [91, 0, 0, 0], tN 0 8, tO 21 [93, 0, 0, 0], tN 0 8, tO 21 [95, 0, 0, 0], tN 0 8, tO 21 [97, 0, 0, 0], tN 0 8, tO 21 [99, 0, 0, 0], tN 0 8, tO 21 [101, 0, 0, 0]]
def TmL_2 : List aT := [tN 0 8, tO 21 [103, 0, 0, 0], tN 0 8, tO 21 [105, 0, 0, 0], tN 0 8, tO 21 [107, 0, 0, 0], tN 0 8, tO 30 [109, 110, 111, 112, 113, 0, 0, 0, 0, 0], tR 3 [114, 116, 118, 120, 122, 124, 126, 128, 130, 132, 134, 136, 138, 140, 142, 144, 146, 148, 150, 152, 154, 156, 158, 160], tR 4 [162, 164, 166, 168, 170, 172, 174, 176, 178, 180, 182, 184, 186, 188, 190, 192, 194, 196, 198, 200, 202, 204, 206, 208], tN 2 25, tN 2 25, tN 0 25, tO 27 [115, 0, 0, 0, 0, 0, 0, 0], tN 0 6, tO 27 [117, 0, 0, 0, 0, 0, 0, 0], tN 0 6, tO 27 [119, 0, 0, 0, 0, 0, 0, 0], tN 0 6, tO 27 [121, 0, 0, 0, 0, 0, 0, 0], tN 0 6, tO 27 [123, 0, 0, 0, 0, 0, 0, 0], tN 0 6, tO 27 [125, 0, 0, 0, 0, 0, 0, 0], tN 0 6, tO 27 [127, 0, 0, 0, 0, 0, 0, 0], tN 0 6, tO 27 [129, 0, 0, 0, 0, 0, 0, 0], tN 0 6, tO 27 [131, 0, 0, 0, 0, 0, 0, 0], tN 0 6, tO 27 [133, 0, 0, 0, 0, 0, 0, 0], tN 0 6, tO 27 [135, 0, 0, 0, 0, 0, 0, 0], tN 0 6, tO 27 [137, 0, 0, 0, 0, 0, 0, 0], tN 0 6, tO 27 [139, 0, 0, 0, 0, 0, 0, 0], tN 0 6, tO 27 [141, 0, 0, 0, 0, 0, 0, 0], tN 0 6, tO 27 [143, 0, 0, 0, 0, 0, 0, 0], tN 0 6, tO 27 [145, 0, 0, 0, 0, 0, 0, 0], tN 0 6, tO 27 [147, 0, 0, 0, 0, 0, 0, 0], tN 0 6, tO 27 [149, 0, 0, 0, 0, 0, 0, 0], tN 0 6, tO 27 [151, 0, 0, 0, 0, 0, 0, 0]]
def TmL_3 : List aT := [tN 0 6, tO 27 [153, 0, 0, 0, 0, 0, 0, 0], tN 0 6, tO 27 [155, 0, 0, 0, 0, 0, 0, 0], tN 0 6, tO 27 [157, 0, 0, 0, 0, 0, 0, 0], tN 0 6, tO 27 [159, 0, 0, 0, 0, 0, 0, 0], tN 0 6, tO 27 [161, 0, 0, 0, 0, 0, 0, 0], tN 0 6, tO 21 [163, 0, 0, 0], tN 0 8, tO 21 [165, 0, 0, 0], tN 0 8, tO 21 [167, 0, 0, 0], tN 0 8, tO 21 [169, 0, 0, 0], tN 0 8, tO 21 [171, 0, 0, 0], tN 0 8, tO 21 [173, 0, 0, 0], tN 0 8, tO 21 [175, 0, 0, 0], tN 0 8, tO 21 [177, 0, 0, 0], tN 0 8, tO 21 [179, 0, 0, 0], tN 0 8, tO 21 [181, 0, 0, 0], tN 0 8, tO 21 [183, 0, 0, 0], tN 0 8, tO 21 [185, 0, 0, 0], tN 0 8, tO 21 [187, 0, 0, 0], tN 0 8, tO 21 [189, 0, 0, 0], tN 0 8, tO 21 [191, 0, 0, 0], tN 0 8, tO 21 [193, 0, 0, 0], tN 0 8, tO 21 [195, 0, 0, 0], tN 0 8, tO 21 [197, 0, 0, 0], tN 0 8, tO 21 [199, 0, 0, 0], tN 0 8, tO 21 [201, 0, 0, 0]]
def TmL_4 : List aT := [tN 0 8, tO 21 [203, 0, 0, 0], tN 0 8, tO 21 [205, 0, 0, 0], tN 0 8, tO 21 [207, 0, 0, 0], tN 0 8, tO 21 [209, 0, 0, 0], tN 0 8, tO 24 [211, 212, 223, 234, 0], tN 0 10, tR 6 [213, 214, 215, 216, 217, 218, 219, 220, 221, 222], tN 0 10, tN 0 10, tN 0 10, tN 0 10, tN 0 10, tN 0 10, tN 0 10, tN 0 10, tN 0 10, tN 0 10, tR 6 [224, 225, 226, 227, 228, 229, 230, 231, 232, 233], tN 0 10, tN 0 10, tN 0 10, tN 0 10, tN 0 10, tN 0 10, tN 0 10, tN 0 10, tN 0 10, tN 0 10, tR 6 [235, 236, 237, 238, 239, 240, 241, 242, 243, 244], tN 0 11, tN 0 11, tN 0 11, tN 0 11, tN 0 11, tN 0 11, tN 0 11, tN 0 11, tN 0 11, tN 0 11, tO 24 [246, 247, 258, 269, 0], tN 0 10, tR 6 [248, 249, 250, 251, 252, 253, 254, 255, 256, 257], tN 0 10, tN 0 10, tN 0 10]
def TmL_5 : List aT := [tN 0 10, tN 0 10, tN 0 10, tN 0 10, tN 0 10, tN 0 10, tN 0 10, tR 6 [259, 260, 261, 262, 263, 264, 265, 266, 267, 268], tN 0 10, tN 0 10, tN 0 10, tN 0 10, tN 0 10, tN 0 10, tN 0 10, tN 0 10, tN 0 10, tN 0 10, tR 6 [270, 271, 272, 273, 274, 275, 276, 277, 278, 279], tN 0 11, tN 0 11, tN 0 11, tN 0 11, tN 0 11, tN 0 11, tN 0 11, tN 0 11, tN 0 11, tN 0 11, tR 22 [281, 282, 283], tN 0 24, tN 0 24, tN 0 10, tO 25 [285, 286, 0, 0], tN 5 20, tR 22 [287, 288, 289], tN 0 24, tN 0 24, tN 0 10, tR 22 [291, 292, 293], tN 0 24, tN 0 24, tN 0 10, tR 22 [295, 296, 297], tN 0 24, tN 0 24, tN 0 10, tR 22 [299, 300, 301], tN 0 24, tN 0 24]
def TmL_6 : List aT := [tN 0 10, tR 22 [303, 304, 305], tN 0 24, tN 0 24, tN 0 10, tR 22 [307, 308, 309], tN 0 24, tN 0 24, tN 0 10, tR 22 [311, 312, 313], tN 0 24, tN 0 24, tN 0 10, tR 22 [315, 316, 317], tN 0 24, tN 0 24, tN 0 10, tR 22 [319, 320, 321], tN 0 24, tN 0 24, tN 0 10, tR 22 [323, 324, 325], tN 0 24, tN 0 24, tN 0 10, tR 22 [327, 328, 329], tN 0 24, tN 0 24, tN 0 10, tR 22 [331, 332, 333], tN 0 24, tN 0 24, tN 0 10, tR 22 [335, 336, 337], tN 0 24, tN 0 24, tN 0 10, tR 22 [339, 340, 341], tN 0 24, tN 0 24, tN 0 10, tR 22 [343, 344, 345], tN 0 24, tN 0 24, tN 0 10, tR 22 [347, 348, 349], tN 0 24, tN 0 24, tN 0 10, tR 22 [351, 352, 353]]
def TmL_7 : List aT := [tN 0 24, tN 0 24, tN 0 10, tR 22 [355, 356, 357], tN 0 24, tN 0 24, tN 0 10, tR 22 [359, 360, 361], tN 0 24, tN 0 24, tN 0 10, tR 22 [363, 364, 365], tN 0 24, tN 0 24, tN 0 10, tR 22 [367, 368, 369], tN 0 24, tN 0 24, tN 0 10, tO 23 [371, 372, 0, 0, 373, 374, 375, 387, 399, 0, 0], tN 0 10, tN 0 60, tN 8 24, tN 0 24, tR 6 [376, 377, 378, 379, 380, 381, 382, 383, 384, 385, 386], tN 0 27, tN 0 27, tN 0 27, tN 0 27, tN 0 27, tN 0 27, tN 0 27, tN 0 27, tN 0 27, tN 0 27, tN 0 27, tR 7 [388, 389, 390, 391, 392, 393, 394, 395, 396, 397, 398], tN 1 27, tN 1 27, tN 1 27, tN 1 27, tN 1 27, tN 1 27, tN 1 27, tN 1 27, tN 1 27, tN 1 27, tN 1 27, tR 6 [400, 401, 402, 403, 404, 405, 406, 407, 408, 409, 410], tN 0 9]
def TmL_8 : List aT := [tN 0 9, tN 0 9, tN 0 9, tN 0 9, tN 0 9, tN 0 9, tN 0 9, tN 0 9, tN 0 9, tN 0 9, tO 20 [412, 413, 414, 415, 426, 437, 438, 439, 450, 0], tN 1 10, tN 0 10, tN 0 10, tR 6 [416, 417, 418, 419, 420, 421, 422, 423, 424, 425], tN 0 60, tN 0 60, tN 0 60, tN 0 60, tN 0 60, tN 0 60, tN 0 60, tN 0 60, tN 0 60, tN 0 60, tR 6 [427, 428, 429, 430, 431, 432, 433, 434, 435, 436], tN 0 24, tN 0 24, tN 0 24, tN 0 24, tN 0 24, tN 0 24, tN 0 24, tN 0 24, tN 0 24, tN 0 24, tN 0 10, tN 0 10, tR 6 [440, 441, 442, 443, 444, 445, 446, 447, 448, 449], tN 0 24, tN 0 24, tN 0 24, tN 0 24, tN 0 24, tN 0 24, tN 0 24, tN 0 24, tN 0 24, tN 0 24, tR 6 [451, 452, 453, 454, 455, 456, 457, 458, 459, 460]]
def TmL_9 : List aT := [tN 0 24, tN 0 24, tN 0 24, tN 0 24, tN 0 24, tN 0 24, tN 0 24, tN 0 24, tN 0 24, tN 0 24, tO 20 [462, 463, 464, 465, 476, 487, 488, 489, 500, 0], tN 1 10, tN 0 10, tN 0 10, tR 6 [466, 467, 468, 469, 470, 471, 472, 473, 474, 475], tN 0 60, tN 0 60, tN 0 60, tN 0 60, tN 0 60, tN 0 60, tN 0 60, tN 0 60, tN 0 60, tN 0 60, tR 6 [477, 478, 479, 480, 481, 482, 483, 484, 485, 486], tN 0 24, tN 0 24, tN 0 24, tN 0 24, tN 0 24, tN 0 24, tN 0 24, tN 0 24, tN 0 24, tN 0 24, tN 0 10, tN 0 10, tR 6 [490, 491, 492, 493, 494, 495, 496, 497, 498, 499], tN 0 24, tN 0 24, tN 0 24, tN 0 24, tN 0 24, tN 0 24, tN 0 24, tN 0 24, tN 0 24, tN 0 24, tR 6 [501, 502, 503, 504, 505, 506, 507, 508, 509, 510]]
def TmL_10 : List aT := [tN 0 24, tN 0 24, tN 0 24, tN 0 24, tN 0 24, tN 0 24, tN 0 24, tN 0 24, tN 0 24, tN 0 24, tO 26 [512, 0, 0, 513, 524, 535], tN 0 10, tR 6 [514, 515, 516, 517, 518, 519, 520, 521, 522, 523], tN 0 24, tN 0 24, tN 0 24, tN 0 24, tN 0 24, tN 0 24, tN 0 24, tN 0 24, tN 0 24, tN 0 24, tR 6 [525, 526, 527, 528, 529, 530, 531, 532, 533, 534], tN 0 24, tN 0 24, tN 0 24, tN 0 24, tN 0 24, tN 0 24, tN 0 24, tN 0 24, tN 0 24, tN 0 24, tR 7 [536, 537, 538, 539, 540, 541, 542, 543, 544, 545], tN 1 24, tN 1 24, tN 1 24, tN 1 24, tN 1 24, tN 1 24, tN 1 24, tN 1 24, tN 1 24, tN 1 24, tO 26 [547, 0, 0, 548, 559, 570], tN 0 10, tR 6 [549, 550, 551, 552, 553, 554, 555, 556, 557, 558], tN 0 24, tN 0 24]
def TmL_11 : List aT := [tN 0 24, tN 0 24, tN 0 24, tN 0 24, tN 0 24, tN 0 24, tN 0 24, tN 0 24, tR 6 [560, 561, 562, 563, 564, 565, 566, 567, 568, 569], tN 0 24, tN 0 24, tN 0 24, tN 0 24, tN 0 24, tN 0 24, tN 0 24, tN 0 24, tN 0 24, tN 0 24, tR 7 [571, 572, 573, 574, 575, 576, 577, 578, 579, 580], tN 1 24, tN 1 24, tN 1 24, tN 1 24, tN 1 24, tN 1 24, tN 1 24, tN 1 24, tN 1 24, tN 1 24, tO 29 [582, 0, 0, 583, 0, 0], tN 0 8, tR 6 [584, 585, 586, 587, 588, 589, 590, 591, 592], tN 0 225, tN 0 225, tN 0 225, tN 0 225, tN 0 225, tN 0 225, tN 0 225, tN 0 225, tN 0 225, tN 2 225, tN 2 225, tN 0 10, tN 0 24, tO 32 [0, 598, 0, 0, 0, 0, 599, 600, 0, 0, 0, 0, 601, 0, 0, 602, 0, 0, 0, 603, 604, 605, 606, 0, 607, 0, 0, 0, 608, 609, 610, 0, 611, 0, 612, 613, 614, 615, 0, 0, 0, 616, 617, 618, 619, 620, 621, 622, 623, 624, 0, 625], tN 0 920, tR 1 [508078, 769604, 1296549, 525618, 21091104997, 8423732, 627876, 1497, 20579924, 23583916, 114131, 5572, 632046, 474798, 726594, 1162, 542896, 114122], tR 0 [126, 94, 39, 38, 64, 35, 37, 42, 43, 61]]
def TmL_12 : List aT := [tN 0 8, tN 0 1166, tN 0 100, tN 0 10, tN 0 100, tN 0 10, tN 0 1276, tN 1 297, tN 0 297, tN 0 80, tN 0 10, tN 0 99, tN 0 240, tN 0 240, tN 0 10, tN 0 240, tN 1 240, tN 0 10, tN 0 24, tN 2 2511, tR 0 [35, 37, 38, 39, 42, 43, 61, 64, 94], tN 0 8, tN 2 279, tN 2 279, tN 0 10, tN 1 1]
def TmL : List aT := TmL_0 ++ (TmL_1 ++ (TmL_2 ++ (TmL_3 ++ (TmL_4 ++ (TmL_5 ++ (TmL_6 ++ (TmL_7 ++ (TmL_8 ++ (TmL_9 ++ (TmL_10 ++ (TmL_11 ++ (TmL_12))))))))))))
def mkC (m : Mm) (i : Nat) (c : aT) : aC := (c.1, c.2.mapIdx fun k o => o.getD (m ((i : Int) + 1) (k : Int)))
def mk (m : Mm) : aH := TmL.mapIdx fun i c => mkC m i c
def shp (x : Int) : Nat := if 1 ≤ x then ((TmL[(x - 1).toNat]?).map fun c => c.1).getD 99 else 99
def slot (x k : Int) : Option (Option Int) := if 1 ≤ x ∧ 0 ≤ k then (TmL[(x - 1).toNat]?).bind fun c => c.2[k.toNat]? else none
def alen (x : Int) : Int := ((((TmL[(x - 1).toNat]?).map fun c => c.2.length).getD 0 : Nat) : Int)
theorem slot_shp {x k : Int} {o : Option Int} (h : slot x k = some o) : 1 ≤ x ∧ 0 ≤ k ∧ ∃ c : aT, TmL[(x - 1).toNat]? = some c ∧ c.1 = shp x ∧ c.2[k.toNat]? = some o := by
  unfold slot at h
  split at h
  · next e =>
    obtain ⟨c, h1, h2⟩ := Option.bind_eq_some_iff.mp h
    refine ⟨e.1, e.2, c, h1, ?_, h2⟩
    unfold shp
    rw [if_pos e.1, h1]
    rfl
  · cases h
theorem mk_cell {m : Mm} {x : Int} {c : aT} (hx : 1 ≤ x) (h : TmL[(x - 1).toNat]? = some c) : cellAt (mk m) x = some (c.1, (c.2.mapIdx fun k o => o.getD (m x (k : Int)))) := by
  unfold cellAt mk
  rw [if_pos hx, List.getElem?_mapIdx, h]
  simp only [Option.map_some, mkC]
  rw [show (((x - 1).toNat : Nat) : Int) + 1 = x by omega]
theorem mk_rd {m : Mm} {x k : Int} {o : Option Int} (h : slot x k = some o) : ∃ l : List Int, cellAt (mk m) x = some (shp x, l) ∧ 0 ≤ k ∧ l[k.toNat]? = some (o.getD (m x k)) := by
  obtain ⟨hx, hk, c, h1, h2, h3⟩ := slot_shp h
  refine ⟨_, by rw [mk_cell hx h1, h2], hk, ?_⟩
  rw [List.getElem?_mapIdx, h3]
  simp only [Option.map_some]
  rw [show ((k.toNat : Nat) : Int) = k by omega]
theorem mk_wr {m : Mm} {x k v : Int} (h : slot x k = some none) : ∃ l : List Int, cellAt (mk m) x = some (shp x, l) ∧ 0 ≤ k ∧ k.toNat < l.length ∧ putAt (mk m) x (shp x, l.set k.toNat v) = mk (umem m x k v) := by
  obtain ⟨hx, hk, c, h1, h2, h3⟩ := slot_shp h
  have hkl : k.toNat < c.2.length := (List.getElem?_eq_some_iff.mp h3).1
  refine ⟨_, by rw [mk_cell hx h1, h2], hk, by rw [List.length_mapIdx]; exact hkl, ?_⟩
  unfold putAt mk
  apply List.ext_getElem?
  intro i
  rw [List.getElem?_set, List.getElem?_mapIdx, List.getElem?_mapIdx]
  by_cases hi : (x - 1).toNat = i
  · subst hi
    rw [if_pos rfl, h1]
    have hl : (x - 1).toNat < (TmL.mapIdx fun i c => mkC m i c).length := by rw [List.length_mapIdx]; exact (List.getElem?_eq_some_iff.mp h1).1
    rw [if_pos hl]
    simp only [Option.map_some, mkC]
    rw [show (((x - 1).toNat : Nat) : Int) + 1 = x by omega, h2]
    congr 2
    apply List.ext_getElem?
    intro j
    rw [List.getElem?_set, List.getElem?_mapIdx, List.getElem?_mapIdx, List.length_mapIdx]
    by_cases hj : k.toNat = j
    · subst hj
      rw [if_pos rfl, if_pos hkl, h3]
      simp only [Option.map_some, Option.getD_none, umem]
      rw [if_pos ⟨trivial, by omega⟩]
    · rw [if_neg hj]
      cases c.2[j]? with
      | none => rfl
      | some o =>
        simp only [Option.map_some, umem]
        rw [if_neg (fun e => hj (by omega))]
  · rw [if_neg hi]
    cases TmL[i]? with
    | none => rfl
    | some d =>
      simp only [Option.map_some, mkC]
      congr 2
      apply List.ext_getElem?
      intro j
      rw [List.getElem?_mapIdx, List.getElem?_mapIdx]
      cases d.2[j]? with
      | none => rfl
      | some o =>
        simp only [Option.map_some, umem]
        rw [if_neg (fun e => hi (by omega))]
/-! judgements over the memory -/
theorem run_more : ∀ (f : Nat) {al : Bool} {M pc : Nat} {ls st : List aV} {hp : aH} {r : Option aV × aH}, runA f al M pc ls st hp = some r → runA (f + 1) al M pc ls st hp = some r := by
  intro f
  induction f with
  | zero => intro al M pc ls st hp r h; cases h
  | succ f ih =>
    intro al M pc ls st hp r h
    obtain ⟨rv, hp'⟩ := r
    obtain ⟨q, hq, ⟨h1, h2, rfl⟩ | ⟨h1, h2, h3⟩ | ⟨h1, h2, z, h3, h4⟩⟩ := run_inv h
    · unfold runA
      simp only [hq, h1, h2, if_true, Option.map_some]
    · rcases h3 with ⟨st2, e1, e2, e3⟩ | ⟨e0, e1, e2, a, st', rfl, e3, e4, e5⟩ | ⟨e0, e1, b1, b2, b3, b4, r1, h1', b5, b6⟩
      · unfold runA
        simp only [hq, h1, h2, if_true, Bool.false_eq_true, if_false]
        have hk : q.2.1 = 7 ∨ q.2.1 = 8 ∨ q.2.1 = 10 := by
          rcases mathS_inv e1 with ⟨-, -, -, -, ⟨h, -⟩ | ⟨h, -⟩⟩ | ⟨-, -, -, -, h, -⟩
          · exact Or.inl h
          · exact Or.inr (Or.inl h)
          · exact Or.inr (Or.inr h)
        rw [if_pos hk, e1]
        simp only [e2, if_true]
        exact ih e3
      · unfold runA
        simp only [hq, h1, h2, if_true, Bool.false_eq_true, if_false]
        rw [if_neg e0, if_pos e1, if_pos ⟨e3, e4, e2⟩]
        exact ih e5
      · unfold runA
        simp only [hq, h1, h2, if_true, Bool.false_eq_true, if_false]
        rw [if_neg e0, if_neg e1, if_pos ⟨b1, b2, b3, b4⟩, ih b5]
        exact ih b6
    · unfold runA
      simp only [hq, h1, h2, h3, Bool.false_eq_true, if_false]
      exact ih h4
theorem run_le {f g : Nat} (h : f ≤ g) {al : Bool} {M pc : Nat} {ls st : List aV} {hp : aH} {r : Option aV × aH} (hr : runA f al M pc ls st hp = some r) : runA g al M pc ls st hp = some r := by
  induction h with
  | refl => exact hr
  | step _ ih => exact run_more _ ih
/-- from here the method comes to its end, with Q -/
def X (M pc : Nat) (ls st : List aV) (m : Mm) (Q : Option aV → Mm → Prop) : Prop := ∃ f rv m', runA f false M pc ls st (mk m) = some (rv, mk m') ∧ Q rv m'
/-- the method, called so -/
def Tr (N : Nat) (as : List aV) (m : Mm) (Q : Option aV → Mm → Prop) : Prop := X N 0 (entA as (mL N)) [] m Q
abbrev qI (K : Int → Mm → Prop) : Option aV → Mm → Prop := fun rv m => ∃ v, rv = some (0, v) ∧ K v m
abbrev qL (K : Int → Mm → Prop) : Option aV → Mm → Prop := fun rv m => ∃ v, rv = some (2, v) ∧ K v m
abbrev qV (K : Mm → Prop) : Option aV → Mm → Prop := fun rv m => rv = none ∧ K m
def TrI (N : Nat) (as : List aV) (m : Mm) (K : Int → Mm → Prop) : Prop := Tr N as m (qI K)
def TrL (N : Nat) (as : List aV) (m : Mm) (K : Int → Mm → Prop) : Prop := Tr N as m (qL K)
def TrV (N : Nat) (as : List aV) (m : Mm) (K : Mm → Prop) : Prop := Tr N as m (qV K)
theorem X.imp {M pc : Nat} {ls st : List aV} {m : Mm} {Q Q' : Option aV → Mm → Prop} (h : X M pc ls st m Q) (k : ∀ rv m', Q rv m' → Q' rv m') : X M pc ls st m Q' := by
  obtain ⟨f, rv, m', h1, h2⟩ := h
  exact ⟨f, rv, m', h1, k _ _ h2⟩
theorem TrI.imp {N : Nat} {as : List aV} {m : Mm} {K K' : Int → Mm → Prop} (h : TrI N as m K) (k : ∀ v m', K v m' → K' v m') : TrI N as m K' := X.imp h fun _ m' ⟨v, e, q⟩ => ⟨v, e, k v m' q⟩
theorem TrL.imp {N : Nat} {as : List aV} {m : Mm} {K K' : Int → Mm → Prop} (h : TrL N as m K) (k : ∀ v m', K v m' → K' v m') : TrL N as m K' := X.imp h fun _ m' ⟨v, e, q⟩ => ⟨v, e, k v m' q⟩
theorem TrV.imp {N : Nat} {as : List aV} {m : Mm} {K K' : Mm → Prop} (h : TrV N as m K) (k : ∀ m', K m' → K' m') : TrV N as m K' := X.imp h fun _ m' ⟨e, q⟩ => ⟨e, k m' q⟩
section XR
variable {M pc : Nat} {ls st : List aV} {m : Mm} {Q : Option aV → Mm → Prop} {q : aI}
theorem x_s {np : Nat} {ls' st' : List aV} (hq : cod M pc = some q) (h1 : isRet q.1 = false) (h2 : isInv q.1 = false) (hs : stp1 false (mk m) ls st pc q = some (np, ls', st', mk m)) (k : X M np ls' st' m Q) : X M pc ls st m Q := by
  obtain ⟨f, rv, m', h, hQ⟩ := k
  refine ⟨f + 1, rv, m', ?_, hQ⟩
  unfold runA
  simp only [hq, h1, h2, hs, Bool.false_eq_true, if_false]
  exact h
theorem x_w {np : Nat} {ls' st' : List aV} {m1 : Mm} (hq : cod M pc = some q) (h1 : isRet q.1 = false) (h2 : isInv q.1 = false) (hs : stp1 false (mk m) ls st pc q = some (np, ls', st', mk m1)) (k : X M np ls' st' m1 Q) : X M pc ls st m Q := by
  obtain ⟨f, rv, m', h, hQ⟩ := k
  refine ⟨f + 1, rv, m', ?_, hQ⟩
  unfold runA
  simp only [hq, h1, h2, hs, Bool.false_eq_true, if_false]
  exact h
/-- a field that changes -/
theorem x_gf {x kk : Int} {i ci k t : Nat} {v : Int} (hq : cod M pc = some (.getfield i, v, ci, k)) (hc : shp x = 20 + ci) (hk : slot x kk = some none) (hkk : kk = (k : Int)) (ht : ftag ci k = t) (K : X M (pc + 3) ls ((t, m x kk) :: st) m Q) : X M pc ls ((1, x) :: st) m Q := by
  subst hkk
  refine x_s hq rfl rfl ?_ K
  obtain ⟨l, h1, -, h2⟩ := mk_rd (m := m) hk
  show gfS (mk m) ls ((1, x) :: st) (pc + 3) ci k = _
  simp only [gfS, h1, hc, if_true, ← ht]
  rw [show (k : Int).toNat = k from rfl] at h2
  rw [h2]
  rfl
/-- a field that never changes -/
theorem x_gc {x kk c : Int} {i ci k t : Nat} {v : Int} (hq : cod M pc = some (.getfield i, v, ci, k)) (hc : shp x = 20 + ci) (hk : slot x kk = some (some c)) (hkk : kk = (k : Int)) (ht : ftag ci k = t) (K : X M (pc + 3) ls ((t, c) :: st) m Q) : X M pc ls ((1, x) :: st) m Q := by
  subst hkk
  refine x_s hq rfl rfl ?_ K
  obtain ⟨l, h1, -, h2⟩ := mk_rd (m := m) hk
  show gfS (mk m) ls ((1, x) :: st) (pc + 3) ci k = _
  simp only [gfS, h1, hc, if_true, ← ht]
  rw [show (k : Int).toNat = k from rfl] at h2
  rw [h2]
  rfl
theorem x_pf {x kk z : Int} {i ci k t : Nat} {v : Int} (hq : cod M pc = some (.putfield i, v, ci, k)) (hc : shp x = 20 + ci) (hk : slot x kk = some none) (hkk : kk = (k : Int)) (ht : ftag ci k = t) (hb : bok (aty ci k) z = true) (K : X M (pc + 3) ls st (umem m x kk z) Q) : X M pc ls ((t, z) :: (1, x) :: st) m Q := by
  subst hkk
  refine x_w hq rfl rfl ?_ K
  obtain ⟨l, h1, -, h2, h3⟩ := mk_wr (m := m) (v := z) hk
  show pfS (mk m) ls ((t, z) :: (1, x) :: st) (pc + 3) ci k = _
  rw [show (k : Int).toNat = k from rfl] at h2 h3
  rw [← h3]
  simp only [pfS, h1, hc, ht]
  rw [if_pos ⟨trivial, trivial, h2, hb⟩]
theorem x_al {x j : Int} {t lo hi : Nat} {v : Int} {a b : Nat} {I : Instr} (hI : (I = .iaload ∧ t = 0 ∧ lo = 0 ∧ hi = 0) ∨ (I = .laload ∧ t = 2 ∧ lo = 1 ∧ hi = 1) ∨ (I = .baload ∧ t = 0 ∧ lo = 2 ∧ hi = 2) ∨ (I = .aaload ∧ t = 1 ∧ lo = 3 ∧ hi = 8)) (hq : cod M pc = some (I, v, a, b)) (hs : lo ≤ shp x ∧ shp x ≤ hi) {o : Option Int} (hk : slot x j = some o) (K : X M (pc + 1) ls ((t, o.getD (m x j)) :: st) m Q) : X M pc ls ((0, j) :: (1, x) :: st) m Q := by
  obtain ⟨l, h1, h0, h2⟩ := mk_rd (m := m) hk
  have key : alS (mk m) ls ((0, j) :: (1, x) :: st) (pc + 1) t lo hi = some (pc + 1, ls, (t, o.getD (m x j)) :: st, mk m) := by
    simp only [alS, h1]
    rw [if_pos ⟨hs.1, hs.2, h0⟩, h2]
    rfl
  rcases hI with ⟨rfl, rfl, rfl, rfl⟩ | ⟨rfl, rfl, rfl, rfl⟩ | ⟨rfl, rfl, rfl, rfl⟩ | ⟨rfl, rfl, rfl, rfl⟩
  · exact x_s hq rfl rfl key K
  · exact x_s hq rfl rfl key K
  · exact x_s hq rfl rfl key K
  · exact x_s hq rfl rfl key K
theorem x_iald {x j : Int} {v : Int} {a b : Nat} (hq : cod M pc = some (.iaload, v, a, b)) (hs : shp x = 0) (hk : slot x j = some none) (K : X M (pc + 1) ls ((0, m x j) :: st) m Q) : X M pc ls ((0, j) :: (1, x) :: st) m Q := x_al (Or.inl ⟨rfl, rfl, rfl, rfl⟩) hq (by rw [hs]; exact ⟨Nat.le_refl _, Nat.le_refl _⟩) hk K
theorem x_laldm {x j : Int} {v : Int} {a b : Nat} (hq : cod M pc = some (.laload, v, a, b)) (hs : shp x = 1) (hk : slot x j = some none) (K : X M (pc + 1) ls ((2, m x j) :: st) m Q) : X M pc ls ((0, j) :: (1, x) :: st) m Q := x_al (Or.inr (Or.inl ⟨rfl, rfl, rfl, rfl⟩)) hq (by rw [hs]; exact ⟨Nat.le_refl _, Nat.le_refl _⟩) hk K
theorem x_bald {x j : Int} {v : Int} {a b : Nat} (hq : cod M pc = some (.baload, v, a, b)) (hs : shp x = 2) (hk : slot x j = some none) (K : X M (pc + 1) ls ((0, m x j) :: st) m Q) : X M pc ls ((0, j) :: (1, x) :: st) m Q := x_al (Or.inr (Or.inr (Or.inl ⟨rfl, rfl, rfl, rfl⟩))) hq (by rw [hs]; exact ⟨Nat.le_refl _, Nat.le_refl _⟩) hk K
theorem x_aald {x j : Int} {v : Int} {a b : Nat} (hq : cod M pc = some (.aaload, v, a, b)) (hs : 3 ≤ shp x ∧ shp x ≤ 8) (hk : slot x j = some none) (K : X M (pc + 1) ls ((1, m x j) :: st) m Q) : X M pc ls ((0, j) :: (1, x) :: st) m Q := x_al (Or.inr (Or.inr (Or.inr ⟨rfl, rfl, rfl, rfl⟩))) hq hs hk K
theorem x_aaldc {x j c : Int} {v : Int} {a b : Nat} (hq : cod M pc = some (.aaload, v, a, b)) (hs : 3 ≤ shp x ∧ shp x ≤ 8) (hk : slot x j = some (some c)) (K : X M (pc + 1) ls ((1, c) :: st) m Q) : X M pc ls ((0, j) :: (1, x) :: st) m Q := x_al (Or.inr (Or.inr (Or.inr ⟨rfl, rfl, rfl, rfl⟩))) hq hs hk K
theorem x_ialdc {x j c : Int} {v : Int} {a b : Nat} (hq : cod M pc = some (.iaload, v, a, b)) (hs : shp x = 0) (hk : slot x j = some (some c)) (K : X M (pc + 1) ls ((0, c) :: st) m Q) : X M pc ls ((0, j) :: (1, x) :: st) m Q := x_al (Or.inl ⟨rfl, rfl, rfl, rfl⟩) hq (by rw [hs]; exact ⟨Nat.le_refl _, Nat.le_refl _⟩) hk K
theorem x_laldc {x j c : Int} {v : Int} {a b : Nat} (hq : cod M pc = some (.laload, v, a, b)) (hs : shp x = 1) (hk : slot x j = some (some c)) (K : X M (pc + 1) ls ((2, c) :: st) m Q) : X M pc ls ((0, j) :: (1, x) :: st) m Q := x_al (Or.inr (Or.inl ⟨rfl, rfl, rfl, rfl⟩)) hq (by rw [hs]; exact ⟨Nat.le_refl _, Nat.le_refl _⟩) hk K
theorem x_as {x j z : Int} {t sh : Nat} (hs : shp x = sh) (hk : slot x j = some none) (hb : bok (aft sh) z = true) : asS (mk m) ls ((t, z) :: (0, j) :: (1, x) :: st) (pc + 1) t sh = some (pc + 1, ls, st, mk (umem m x j z)) := by
  obtain ⟨l, h1, h0, h2, h3⟩ := mk_wr (m := m) (v := z) hk
  simp only [asS, h1]
  rw [if_pos ⟨trivial, hs, h0, h2, hb⟩]
  rw [h3]
theorem x_iast {x j z : Int} {v : Int} {a b : Nat} (hq : cod M pc = some (.iastore, v, a, b)) (hs : shp x = 0) (hk : slot x j = some none) (K : X M (pc + 1) ls st (umem m x j z) Q) : X M pc ls ((0, z) :: (0, j) :: (1, x) :: st) m Q := x_w hq rfl rfl (x_as (t := 0) hs hk rfl) K
theorem x_last {x j z : Int} {v : Int} {a b : Nat} (hq : cod M pc = some (.lastore, v, a, b)) (hs : shp x = 1) (hk : slot x j = some none) (K : X M (pc + 1) ls st (umem m x j z) Q) : X M pc ls ((2, z) :: (0, j) :: (1, x) :: st) m Q := x_w hq rfl rfl (x_as (t := 2) hs hk rfl) K
theorem x_bast {x j z : Int} {v : Int} {a b : Nat} (hq : cod M pc = some (.bastore, v, a, b)) (hs : shp x = 2) (hk : slot x j = some none) (hb : z = 0 ∨ z = 1) (K : X M (pc + 1) ls st (umem m x j z) Q) : X M pc ls ((0, z) :: (0, j) :: (1, x) :: st) m Q := x_w hq rfl rfl (x_as (t := 0) hs hk (by rcases hb with rfl | rfl <;> rfl)) K
theorem x_aast {x j z : Int} {v : Int} {a b : Nat} (hq : cod M pc = some (.aastore, v, a, b)) (hs : shp x = 3 ∨ shp x = 4 ∨ shp x = 5 ∨ shp x = 8) (hk : slot x j = some none) {o : Option Int} (hz : slot z 0 = some o) (hc : shp z = 20 + aec (shp x)) (K : X M (pc + 1) ls st (umem m x j z) Q) : X M pc ls ((1, z) :: (0, j) :: (1, x) :: st) m Q := by
  refine x_w hq rfl rfl ?_ K
  obtain ⟨l, h1, h0, h2, h3⟩ := mk_wr (m := m) (v := z) hk
  obtain ⟨lz, g1, -, -⟩ := mk_rd (m := m) hz
  show arS (mk m) ls ((1, z) :: (0, j) :: (1, x) :: st) (pc + 1) = _
  simp only [arS, h1, g1]
  rw [if_pos ⟨hs, hc, h0, h2⟩, h3]
theorem x_len {x : Int} {v : Int} {a b : Nat} (hq : cod M pc = some (.arraylength, v, a, b)) (hx : 1 ≤ x) (hs : shp x < 9) (K : X M (pc + 1) ls ((0, alen x) :: st) m Q) : X M pc ls ((1, x) :: st) m Q := by
  refine x_s hq rfl rfl ?_ K
  show anS (mk m) ls ((1, x) :: st) (pc + 1) = _
  cases h : TmL[(x - 1).toNat]? with
  | none => unfold shp at hs; rw [if_pos hx, h] at hs; simp at hs
  | some c =>
    have hc : shp x = c.1 := by unfold shp; rw [if_pos hx, h]; rfl
    simp only [anS, mk_cell hx h]
    rw [if_pos (by rw [← hc]; exact hs), List.length_mapIdx]
    unfold alen
    rw [h]
    rfl
theorem x_if {c : ClassFile.Cond} {off : Int} {tgt : Nat} {x v : Int} {a b : Nat} {p : Prop} (hq : cod M pc = some (.ifCond c off, v, a, b)) (ht : (pc : Int) + off = (tgt : Int)) (hp : cmpI c x 0 = true ↔ p) (k1 : p → X M tgt ls st m Q) (k2 : ¬ p → X M (pc + 3) ls st m Q) : X M pc ls ((0, x) :: st) m Q := by
  have key : ∀ np, (if cmpI c x 0 then tgt else pc + 3) = np → stp1 false (mk m) ls ((0, x) :: st) pc (.ifCond c off, v, a, b) = some (np, ls, st, mk m) := fun np e => by
    show if1 (mk m) ls ((0, x) :: st) pc c off = _
    simp only [if1]
    rw [if_pos (by omega), show ((pc : Int) + off).toNat = tgt by omega, e]
  by_cases hp' : p
  · exact x_s hq rfl rfl (key tgt (if_pos (hp.mpr hp'))) (k1 hp')
  · exact x_s hq rfl rfl (key (pc + 3) (if_neg (fun e => hp' (hp.mp e)))) (k2 hp')
theorem x_ic {c : ClassFile.Cond} {off : Int} {tgt : Nat} {x y v : Int} {a b : Nat} {p : Prop} (hq : cod M pc = some (.if_icmp c off, v, a, b)) (ht : (pc : Int) + off = (tgt : Int)) (hp : cmpI c x y = true ↔ p) (k1 : p → X M tgt ls st m Q) (k2 : ¬ p → X M (pc + 3) ls st m Q) : X M pc ls ((0, y) :: (0, x) :: st) m Q := by
  have key : ∀ np, (if cmpI c x y then tgt else pc + 3) = np → stp1 false (mk m) ls ((0, y) :: (0, x) :: st) pc (.if_icmp c off, v, a, b) = some (np, ls, st, mk m) := fun np e => by
    show if2 (mk m) ls ((0, y) :: (0, x) :: st) pc c off = _
    simp only [if2]
    rw [if_pos (by omega), show ((pc : Int) + off).toNat = tgt by omega, e]
  by_cases hp' : p
  · exact x_s hq rfl rfl (key tgt (if_pos (hp.mpr hp'))) (k1 hp')
  · exact x_s hq rfl rfl (key (pc + 3) (if_neg (fun e => hp' (hp.mp e)))) (k2 hp')
theorem x_go {off : Int} {tgt : Nat} {v : Int} {a b : Nat} (hq : cod M pc = some (.goto off, v, a, b)) (ht : (pc : Int) + off = (tgt : Int)) (k : X M tgt ls st m Q) : X M pc ls st m Q := by
  refine x_s hq rfl rfl ?_ k
  show jmp (mk m) ls st pc off = _
  unfold jmp
  rw [if_pos (by omega), show ((pc : Int) + off).toNat = tgt by omega]
theorem x_div {x y : Int} {v : Int} {a b : Nat} (hq : cod M pc = some (.idiv, v, a, b)) (hy : ¬ y = 0) (k : X M (pc + 1) ls ((0, bI (fun a b => a / b) x y) :: st) m Q) : X M pc ls ((0, y) :: (0, x) :: st) m Q := by
  refine x_s hq rfl rfl ?_ k
  show op2 (mk m) ls ((0, y) :: (0, x) :: st) (pc + 1) (fun x y => if y = 0 then none else some (bI (fun a b => a / b) x y)) = _
  simp only [op2, if_neg hy, Option.map_some]
theorem x_rem {x y : Int} {v : Int} {a b : Nat} (hq : cod M pc = some (.irem, v, a, b)) (hy : ¬ y = 0) (k : X M (pc + 1) ls ((0, bI (fun a b => a - a / b * b) x y) :: st) m Q) : X M pc ls ((0, y) :: (0, x) :: st) m Q := by
  refine x_s hq rfl rfl ?_ k
  show op2 (mk m) ls ((0, y) :: (0, x) :: st) (pc + 1) (fun x y => if y = 0 then none else some (bI (fun a b => a - a / b * b) x y)) = _
  simp only [op2, if_neg hy, Option.map_some]
theorem x_ldiv {x y : Int} {v : Int} {a b : Nat} (hq : cod M pc = some (.ldiv, v, a, b)) (hy : ¬ y = 0) (k : X M (pc + 1) ls ((2, bL (fun a b => a / b) x y) :: st) m Q) : X M pc ls ((2, y) :: (2, x) :: st) m Q := by
  refine x_s hq rfl rfl ?_ k
  show op2L (mk m) ls ((2, y) :: (2, x) :: st) (pc + 1) 2 (fun x y => if y = 0 then none else some (bL (fun a b => a / b) x y)) = _
  simp only [op2L, if_neg hy, Option.map_some]
theorem x_lrem {x y : Int} {v : Int} {a b : Nat} (hq : cod M pc = some (.lrem, v, a, b)) (hy : ¬ y = 0) (k : X M (pc + 1) ls ((2, bL (fun a b => a - a / b * b) x y) :: st) m Q) : X M pc ls ((2, y) :: (2, x) :: st) m Q := by
  refine x_s hq rfl rfl ?_ k
  show op2L (mk m) ls ((2, y) :: (2, x) :: st) (pc + 1) 2 (fun x y => if y = 0 then none else some (bL (fun a b => a - a / b * b) x y)) = _
  simp only [op2L, if_neg hy, Option.map_some]
theorem x_tsw {d lo hi : Int} {offs : Array Int} {x v : Int} {a b : Nat} (hq : cod M pc = some (.tableswitch d lo hi offs, v, a, b)) (hs : (offs.size : Int) = hi - lo + 1) (hd : 0 ≤ (pc : Int) + d) (ho : ∀ o ∈ offs.toList, 0 ≤ (pc : Int) + o) (kd : x < lo ∨ hi < x → X M ((pc : Int) + d).toNat ls st m Q) (ki : ∀ (i : Nat) (o : Int), offs.toList[i]? = some o → x = lo + (i : Int) → X M ((pc : Int) + o).toNat ls st m Q) : X M pc ls ((0, x) :: st) m Q := by
  by_cases h : x < lo ∨ hi < x
  · refine x_s hq rfl rfl ?_ (kd h)
    show swT (mk m) ls ((0, x) :: st) pc d lo hi offs = _
    simp only [swT, if_pos h, jmp, if_pos hd]
  · have hi2 : (x - lo).toNat < offs.size := by omega
    have e : offs[(x - lo).toNat]? = some offs[(x - lo).toNat] := Array.getElem?_eq_getElem hi2
    have e2 : offs.toList[(x - lo).toNat]? = some offs[(x - lo).toNat] := by rw [Array.getElem?_toList]; exact e
    refine x_s hq rfl rfl ?_ (ki (x - lo).toNat _ e2 (by omega))
    show swT (mk m) ls ((0, x) :: st) pc d lo hi offs = _
    simp only [swT, if_neg h, e, jmp]
    rw [if_pos (ho _ (List.mem_of_getElem? e2))]
theorem x_lsw {d : Int} {ps : Array (Int × Int)} {x v : Int} {a b : Nat} (hq : cod M pc = some (.lookupswitch d ps, v, a, b)) (hs : (ps.toList.zip (ps.toList.drop 1)).all (fun (a, next) => a.1 < next.1) = true) (k : ∀ o, Op.lookupswitch.offset ps.toList d x = o → 0 ≤ (pc : Int) + o ∧ X M ((pc : Int) + o).toNat ls st m Q) : X M pc ls ((0, x) :: st) m Q := by
  obtain ⟨h1, h2⟩ := k _ rfl
  refine x_s hq rfl rfl ?_ h2
  show swL (mk m) ls ((0, x) :: st) pc d ps = _
  unfold swL
  simp only
  rw [if_pos hs]
  unfold jmp
  rw [if_pos h1]
theorem x_retV {v : Int} {a b : Nat} {K : Mm → Prop} (hq : cod M pc = some (.return_, v, a, b)) (hr : mR M = none) (k : K m) : X M pc ls [] m (qV K) := by
  refine ⟨1, none, m, ?_, rfl, k⟩
  unfold runA
  simp only [hq, hr, isRet, if_true, retS, Option.map_some]
theorem x_retI {v z : Int} {a b : Nat} {K : Int → Mm → Prop} {t : FieldType} (hq : cod M pc = some (.ireturn, v, a, b)) (hr : mR M = some t) (ht : tagT t = 0) (hb : bok t z = true) (k : K z m) : X M pc ls [(0, z)] m (qI K) := by
  refine ⟨1, some (0, z), m, ?_, z, rfl, k⟩
  unfold runA
  simp only [hq, hr, isRet, if_true, retS, ht, hb, and_self, Option.map_some]
theorem x_retL {v z : Int} {a b : Nat} {K : Int → Mm → Prop} (hq : cod M pc = some (.lreturn, v, a, b)) (hr : mR M = some .long) (k : K z m) : X M pc ls [(2, z)] m (qL K) := by
  refine ⟨1, some (2, z), m, ?_, z, rfl, k⟩
  unfold runA
  simp only [hq, hr, isRet, if_true, retS, Option.map_some]
theorem x_call {N n : Nat} {v : Int} {I : Instr} {as rest : List aV} (hq : cod M pc = some (I, v, N, n)) (h1 : isRet I = false) (h2 : isInv I = true) (hN : N ≠ 999) (hv : ¬ (v = 7 ∨ v = 8 ∨ v = 10)) (hst : st = as.reverse ++ rest) (hn : as.length = n) (hc : catS rest ≤ 8) (hr : rcvOK (mk m) v N as = true) (he : (entL as).length ≤ mL N) (T : Tr N as m fun rv m1 => X M (pc + 3) ls (rv.toList ++ rest) m1 Q) : X M pc ls st m Q := by
  obtain ⟨f1, r1, m1, t1, f2, r2, m2, t2, hQ⟩ := T
  refine ⟨max f1 f2 + 1, r2, m2, ?_, hQ⟩
  have e1 : st.take n = as.reverse := by rw [hst, ← hn, ← List.length_reverse, List.take_left]
  have e2 : st.drop n = rest := by rw [hst, ← hn, ← List.length_reverse, List.drop_left]
  have e3 : n ≤ st.length := by rw [hst, ← hn]; simp
  unfold runA
  simp only [hq, h1, h2, if_true, Bool.false_eq_true, if_false]
  rw [if_neg hv, if_neg hN, e1, e2, List.reverse_reverse, if_pos ⟨e3, hc, hr, he⟩, run_le (Nat.le_max_left f1 f2) t1]
  exact run_le (Nat.le_max_right f1 f2) t2
theorem rcv0 {N : Nat} {x : Int} {o : Option Int} {l : List aV} (hs : slot x 0 = some o) (hx : shp x = 20 + mC N) (hc : mC N < 13) : rcvOK (mk m) 0 N ((1, x) :: l) = true := by
  obtain ⟨li, h1, -, -⟩ := mk_rd (m := m) hs
  unfold rcvOK
  simp only [if_true, h1, hx, decide_true, Bool.true_and, hc]
end XR
theorem bok_b {z : Int} (h : z = 0 ∨ z = 1) : bok .boolean z = true := by rcases h with rfl | rfl <;> rfl
abbrev isA (x : Int) (sh n : Nat) : Prop := 1 ≤ x ∧ TmL[(x - 1).toNat]? = some (tN sh n)
theorem isA.s {x : Int} {sh n : Nat} (h : isA x sh n) : shp x = sh := by
  unfold shp
  rw [if_pos h.1, h.2]
  rfl
theorem isA.k {x j : Int} {sh n : Nat} (h : isA x sh n) (h0 : 0 ≤ j) (h1 : j < n) : slot x j = some none := by
  unfold slot
  rw [if_pos ⟨h.1, h0⟩, h.2]
  show (List.replicate n (none : Option Int))[j.toNat]? = some none
  rw [List.getElem?_replicate, if_pos (by omega)]
theorem isA.l {x : Int} {sh n : Nat} (h : isA x sh n) : alen x = n := by
  unfold alen
  rw [h.2]
  simp [tN]
/-! the classes' objects, by their shapes -/
theorem in_of {sh : Nat} {l : List Int} {x : Int} (hs : sh < 99) (hd : ∀ i : Nat, i < 626 → shp ((i : Int) + 1) = sh → ((i : Int) + 1) ∈ l) (h : shp x = sh) : x ∈ l := by
  have hx : 1 ≤ x := by
    by_cases hx : 1 ≤ x
    · exact hx
    · unfold shp at h; rw [if_neg hx] at h; omega
  have hl : (x - 1).toNat < 626 := by
    by_cases hl : (x - 1).toNat < TmL.length
    · have : TmL.length = 626 := by decide +kernel
      omega
    · unfold shp at h
      rw [if_pos hx, List.getElem?_eq_none (by omega)] at h
      simp only [Option.map_none, Option.getD_none] at h
      omega
  have := hd (x - 1).toNat hl
  rw [show (((x - 1).toNat : Nat) : Int) + 1 = x by omega] at this
  exact this h
def cl_20 : List Int := [411, 461]
theorem in_20 {x : Int} (h : shp x = 20) : x ∈ cl_20 := in_of (by decide) (by decide +kernel) h
def cl_21 : List Int := [60, 62, 64, 66, 68, 70, 72, 74, 76, 78, 80, 82, 84, 86, 88, 90, 92, 94, 96, 98, 100, 102, 104, 106, 162, 164, 166, 168, 170, 172, 174, 176, 178, 180, 182, 184, 186, 188, 190, 192, 194, 196, 198, 200, 202, 204, 206, 208]
theorem in_21 {x : Int} (h : shp x = 21) : x ∈ cl_21 := in_of (by decide) (by decide +kernel) h
def cl_22 : List Int := [280, 286, 290, 294, 298, 302, 306, 310, 314, 318, 322, 326, 330, 334, 338, 342, 346, 350, 354, 358, 362, 366]
theorem in_22 {x : Int} (h : shp x = 22) : x ∈ cl_22 := in_of (by decide) (by decide +kernel) h
def cl_23 : List Int := [370]
theorem in_23 {x : Int} (h : shp x = 23) : x ∈ cl_23 := in_of (by decide) (by decide +kernel) h
def cl_24 : List Int := [210, 245]
theorem in_24 {x : Int} (h : shp x = 24) : x ∈ cl_24 := in_of (by decide) (by decide +kernel) h
def cl_25 : List Int := [284]
theorem in_25 {x : Int} (h : shp x = 25) : x ∈ cl_25 := in_of (by decide) (by decide +kernel) h
def cl_26 : List Int := [511, 546]
theorem in_26 {x : Int} (h : shp x = 26) : x ∈ cl_26 := in_of (by decide) (by decide +kernel) h
def cl_27 : List Int := [12, 14, 16, 18, 20, 22, 24, 26, 28, 30, 32, 34, 36, 38, 40, 42, 44, 46, 48, 50, 52, 54, 56, 58, 114, 116, 118, 120, 122, 124, 126, 128, 130, 132, 134, 136, 138, 140, 142, 144, 146, 148, 150, 152, 154, 156, 158, 160]
theorem in_27 {x : Int} (h : shp x = 27) : x ∈ cl_27 := in_of (by decide) (by decide +kernel) h
def cl_28 : List Int := [3]
theorem in_28 {x : Int} (h : shp x = 28) : x ∈ cl_28 := in_of (by decide) (by decide +kernel) h
def cl_29 : List Int := [581]
theorem in_29 {x : Int} (h : shp x = 29) : x ∈ cl_29 := in_of (by decide) (by decide +kernel) h
def cl_30 : List Int := [6, 108]
theorem in_30 {x : Int} (h : shp x = 30) : x ∈ cl_30 := in_of (by decide) (by decide +kernel) h
def cl_31 : List Int := [1]
theorem in_31 {x : Int} (h : shp x = 31) : x ∈ cl_31 := in_of (by decide) (by decide +kernel) h
def cl_32 : List Int := [597]
theorem in_32 {x : Int} (h : shp x = 32) : x ∈ cl_32 := in_of (by decide) (by decide +kernel) h
def bi (p : Prop) [Decidable p] : Int := if p then 1 else 0
theorem bi_01 (p : Prop) [Decidable p] : bi p = 0 ∨ bi p = 1 := by
  unfold bi
  split
  · exact Or.inr rfl
  · exact Or.inl rfl
theorem bi_eq0 {p : Prop} [Decidable p] : bi p = 0 ↔ ¬ p := by
  unfold bi
  split <;> simp_all
theorem bi_t {p : Prop} [Decidable p] (h : p) : bi p = 1 := if_pos h
theorem bi_f {p : Prop} [Decidable p] (h : ¬ p) : bi p = 0 := if_neg h
theorem xb_eq {p : Prop} [Decidable p] : cmpI .eq (bi p) 0 = true ↔ ¬ p := by simp only [cmpI, decide_eq_true_eq]; exact bi_eq0
theorem xb_ne {p : Prop} [Decidable p] : cmpI .ne (bi p) 0 = true ↔ p := by simp only [cmpI, decide_eq_true_eq]; exact ⟨fun h => Classical.byContradiction fun q => h (bi_eq0.mpr q), fun h q => bi_eq0.mp q h⟩
theorem xj_eq {x y : Int} : cmpI .eq x y = true ↔ x = y := by simp [cmpI]
theorem xj_ne {x y : Int} : cmpI .ne x y = true ↔ ¬ x = y := by simp [cmpI]
theorem xj_lt {x y : Int} : cmpI .lt x y = true ↔ x < y := by simp [cmpI]
theorem xj_gt {x y : Int} : cmpI .gt x y = true ↔ x > y := by simp [cmpI]
theorem xn_ge {x y : Int} : cmpI .ge x y = true ↔ ¬ x < y := by simp [cmpI]
theorem xn_le {x y : Int} : cmpI .le x y = true ↔ ¬ x > y := by simp [cmpI]
def iand (x y : Int) : Int := bI (fun a b => a &&& b) x y
def ior (x y : Int) : Int := bI (fun a b => a ||| b) x y
def ishl (x y : Int) : Int := bI (fun a b => a <<< (b &&& 31)) x y
def ishr (x y : Int) : Int := bI (fun a b => a >>> (b &&& 31)) x y
def iushr (x y : Int) : Int := bI (fun a b => (a.toUInt32 >>> (b.toUInt32 &&& Int32.toUInt32 31)).toInt32) x y
def idiv (x y : Int) : Int := bI (fun a b => a / b) x y
def irem (x y : Int) : Int := bI (fun a b => a - a / b * b) x y
def land (x y : Int) : Int := bL (fun a b => a &&& b) x y
def ldiv (x y : Int) : Int := bL (fun a b => a / b) x y
def lrem (x y : Int) : Int := bL (fun a b => a - a / b * b) x y
def lshr (x y : Int) : Int := (i6 x >>> ((i3 y).toInt64 &&& 63)).toInt
def lcmp (x y : Int) : Int := if y < x then 1 else if x = y then 0 else -1
def i2c (x : Int) : Int := (((i3 x).toUInt32 % 65536).toInt32).toInt
def i2b (x : Int) : Int := ((i3 x).toInt8.toInt32).toInt
def cs (x j : Int) : Int := ((slot x j).getD none).getD 0
section XR
variable {M pc : Nat} {ls st : List aV} {m : Mm} {Q : Option aV → Mm → Prop}
theorem x_m7 {I : Instr} {N n : Nat} {x y : Int} (hq : cod M pc = some (I, 7, N, n)) (h1 : isRet I = false) (h2 : isInv I = true) (hc : catS st ≤ 8) (K : X M (pc + 3) ls ((0, min x y) :: st) m Q) : X M pc ls ((0, y) :: (0, x) :: st) m Q := by
  obtain ⟨f, rv, m', h, hQ⟩ := K
  refine ⟨f + 1, rv, m', ?_, hQ⟩
  unfold runA
  simp only [hq, h1, h2, if_true, Bool.false_eq_true, if_false]
  rw [if_pos (by decide), show mathS 7 ((0, y) :: (0, x) :: st) = some ((0, min x y) :: st) from rfl]
  exact (if_pos hc).trans h
theorem x_m8 {I : Instr} {N n : Nat} {x y : Int} (hq : cod M pc = some (I, 8, N, n)) (h1 : isRet I = false) (h2 : isInv I = true) (hc : catS st ≤ 8) (K : X M (pc + 3) ls ((0, max x y) :: st) m Q) : X M pc ls ((0, y) :: (0, x) :: st) m Q := by
  obtain ⟨f, rv, m', h, hQ⟩ := K
  refine ⟨f + 1, rv, m', ?_, hQ⟩
  unfold runA
  simp only [hq, h1, h2, if_true, Bool.false_eq_true, if_false]
  rw [if_pos (by decide), show mathS 8 ((0, y) :: (0, x) :: st) = some ((0, max x y) :: st) from rfl]
  exact (if_pos hc).trans h
theorem x_m10 {I : Instr} {N n : Nat} {x y : Int} (hq : cod M pc = some (I, 10, N, n)) (h1 : isRet I = false) (h2 : isInv I = true) (hc : catS st ≤ 8) (K : X M (pc + 3) ls ((2, min x y) :: st) m Q) : X M pc ls ((2, y) :: (2, x) :: st) m Q := by
  obtain ⟨f, rv, m', h, hQ⟩ := K
  refine ⟨f + 1, rv, m', ?_, hQ⟩
  unfold runA
  simp only [hq, h1, h2, if_true, Bool.false_eq_true, if_false]
  rw [if_pos (by decide), show mathS 10 ((2, y) :: (2, x) :: st) = some ((2, min x y) :: st) from rfl]
  exact (if_pos hc).trans h
theorem x_ift {c : ClassFile.Cond} {off : Int} {tgt : Nat} {x v : Int} {a b : Nat} (hq : cod M pc = some (.ifCond c off, v, a, b)) (ht : (pc : Int) + off = (tgt : Int)) (hp : cmpI c x 0 = true) (k : X M tgt ls st m Q) : X M pc ls ((0, x) :: st) m Q :=
  x_if (p := True) hq ht ⟨fun _ => trivial, fun _ => hp⟩ (fun _ => k) (fun h => absurd trivial h)
theorem x_ict {c : ClassFile.Cond} {off : Int} {tgt : Nat} {x y v : Int} {a b : Nat} (hq : cod M pc = some (.if_icmp c off, v, a, b)) (ht : (pc : Int) + off = (tgt : Int)) (hp : cmpI c x y = true) (k : X M tgt ls st m Q) : X M pc ls ((0, y) :: (0, x) :: st) m Q :=
  x_ic (p := True) hq ht ⟨fun _ => trivial, fun _ => hp⟩ (fun _ => k) (fun h => absurd trivial h)
theorem x_iff {c : ClassFile.Cond} {off : Int} {x v : Int} {a b : Nat} (hq : cod M pc = some (.ifCond c off, v, a, b)) (ht : 0 ≤ (pc : Int) + off) (hp : cmpI c x 0 = false) (k : X M (pc + 3) ls st m Q) : X M pc ls ((0, x) :: st) m Q :=
  x_if (p := False) (tgt := ((pc : Int) + off).toNat) hq (by omega) ⟨fun h => (by rw [hp] at h; cases h), fun h => h.elim⟩ (fun h => h.elim) (fun _ => k)
theorem x_icf {c : ClassFile.Cond} {off : Int} {x y v : Int} {a b : Nat} (hq : cod M pc = some (.if_icmp c off, v, a, b)) (ht : 0 ≤ (pc : Int) + off) (hp : cmpI c x y = false) (k : X M (pc + 3) ls st m Q) : X M pc ls ((0, y) :: (0, x) :: st) m Q :=
  x_ic (p := False) (tgt := ((pc : Int) + off).toNat) hq (by omega) ⟨fun h => (by rw [hp] at h; cases h), fun h => h.elim⟩ (fun h => h.elim) (fun _ => k)
theorem x_lenA {x z : Int} {sh n : Nat} {v : Int} {a b : Nat} (hq : cod M pc = some (.arraylength, v, a, b)) (hA : isA x sh n) (hs : sh < 9) (hz : (n : Int) = z) (K : X M (pc + 1) ls ((0, z) :: st) m Q) : X M pc ls ((1, x) :: st) m Q := by
  subst hz
  refine x_len hq hA.1 (by rw [hA.s]; exact hs) ?_
  rw [hA.l]
  exact K
theorem x_rV {v : Int} {a b : Nat} (hq : cod M pc = some (.return_, v, a, b)) (hr : mR M = none) (k : Q none m) : X M pc ls [] m Q := by
  refine ⟨1, none, m, ?_, k⟩
  unfold runA
  simp only [hq, hr, isRet, if_true, retS, Option.map_some]
theorem x_rI {v z : Int} {a b : Nat} {t : FieldType} (hq : cod M pc = some (.ireturn, v, a, b)) (hr : mR M = some t) (ht : tagT t = 0) (hb : bok t z = true) (k : Q (some (0, z)) m) : X M pc ls [(0, z)] m Q := by
  refine ⟨1, some (0, z), m, ?_, k⟩
  unfold runA
  simp only [hq, hr, isRet, if_true, retS, ht, hb, and_self, Option.map_some]
theorem x_rL {v z : Int} {a b : Nat} (hq : cod M pc = some (.lreturn, v, a, b)) (hr : mR M = some .long) (k : Q (some (2, z)) m) : X M pc ls [(2, z)] m Q := by
  refine ⟨1, some (2, z), m, ?_, k⟩
  unfold runA
  simp only [hq, hr, isRet, if_true, retS, Option.map_some]
end XR
theorem cod_0 {pc : Nat} {q : aI} (h : k_0.lookup pc = some q) : cod 0 pc = some q := (congrArg (List.lookup pc) (show mK 0 = k_0 from rfl)).trans h
theorem cod_1 {pc : Nat} {q : aI} (h : k_1.lookup pc = some q) : cod 1 pc = some q := (congrArg (List.lookup pc) (show mK 1 = k_1 from rfl)).trans h
theorem cod_2 {pc : Nat} {q : aI} (h : k_2.lookup pc = some q) : cod 2 pc = some q := (congrArg (List.lookup pc) (show mK 2 = k_2 from rfl)).trans h
theorem cod_3 {pc : Nat} {q : aI} (h : k_3.lookup pc = some q) : cod 3 pc = some q := (congrArg (List.lookup pc) (show mK 3 = k_3 from rfl)).trans h
theorem cod_4 {pc : Nat} {q : aI} (h : k_4.lookup pc = some q) : cod 4 pc = some q := (congrArg (List.lookup pc) (show mK 4 = k_4 from rfl)).trans h
theorem cod_5 {pc : Nat} {q : aI} (h : k_5.lookup pc = some q) : cod 5 pc = some q := (congrArg (List.lookup pc) (show mK 5 = k_5 from rfl)).trans h
theorem cod_6 {pc : Nat} {q : aI} (h : k_6.lookup pc = some q) : cod 6 pc = some q := (congrArg (List.lookup pc) (show mK 6 = k_6 from rfl)).trans h
theorem cod_7 {pc : Nat} {q : aI} (h : k_7.lookup pc = some q) : cod 7 pc = some q := (congrArg (List.lookup pc) (show mK 7 = k_7 from rfl)).trans h
theorem cod_8 {pc : Nat} {q : aI} (h : k_8.lookup pc = some q) : cod 8 pc = some q := (congrArg (List.lookup pc) (show mK 8 = k_8 from rfl)).trans h
theorem cod_9 {pc : Nat} {q : aI} (h : k_9.lookup pc = some q) : cod 9 pc = some q := (congrArg (List.lookup pc) (show mK 9 = k_9 from rfl)).trans h
theorem cod_10 {pc : Nat} {q : aI} (h : k_10.lookup pc = some q) : cod 10 pc = some q := (congrArg (List.lookup pc) (show mK 10 = k_10 from rfl)).trans h
theorem cod_11 {pc : Nat} {q : aI} (h : k_11.lookup pc = some q) : cod 11 pc = some q := (congrArg (List.lookup pc) (show mK 11 = k_11 from rfl)).trans h
theorem cod_12 {pc : Nat} {q : aI} (h : k_12.lookup pc = some q) : cod 12 pc = some q := (congrArg (List.lookup pc) (show mK 12 = k_12 from rfl)).trans h
theorem cod_13 {pc : Nat} {q : aI} (h : k_13.lookup pc = some q) : cod 13 pc = some q := (congrArg (List.lookup pc) (show mK 13 = k_13 from rfl)).trans h
theorem cod_14 {pc : Nat} {q : aI} (h : k_14.lookup pc = some q) : cod 14 pc = some q := (congrArg (List.lookup pc) (show mK 14 = k_14 from rfl)).trans h
theorem cod_15 {pc : Nat} {q : aI} (h : k_15.lookup pc = some q) : cod 15 pc = some q := (congrArg (List.lookup pc) (show mK 15 = k_15 from rfl)).trans h
theorem cod_16 {pc : Nat} {q : aI} (h : k_16.lookup pc = some q) : cod 16 pc = some q := (congrArg (List.lookup pc) (show mK 16 = k_16 from rfl)).trans h
theorem cod_17 {pc : Nat} {q : aI} (h : k_17.lookup pc = some q) : cod 17 pc = some q := (congrArg (List.lookup pc) (show mK 17 = k_17 from rfl)).trans h
theorem cod_18 {pc : Nat} {q : aI} (h : k_18.lookup pc = some q) : cod 18 pc = some q := (congrArg (List.lookup pc) (show mK 18 = k_18 from rfl)).trans h
theorem cod_19 {pc : Nat} {q : aI} (h : k_19.lookup pc = some q) : cod 19 pc = some q := (congrArg (List.lookup pc) (show mK 19 = k_19 from rfl)).trans h
theorem cod_20 {pc : Nat} {q : aI} (h : k_20.lookup pc = some q) : cod 20 pc = some q := (congrArg (List.lookup pc) (show mK 20 = k_20 from rfl)).trans h
theorem cod_21 {pc : Nat} {q : aI} (h : k_21.lookup pc = some q) : cod 21 pc = some q := (congrArg (List.lookup pc) (show mK 21 = k_21 from rfl)).trans h
theorem cod_22 {pc : Nat} {q : aI} (h : k_22.lookup pc = some q) : cod 22 pc = some q := (congrArg (List.lookup pc) (show mK 22 = k_22 from rfl)).trans h
theorem cod_23 {pc : Nat} {q : aI} (h : k_23.lookup pc = some q) : cod 23 pc = some q := (congrArg (List.lookup pc) (show mK 23 = k_23 from rfl)).trans h
theorem cod_24 {pc : Nat} {q : aI} (h : k_24.lookup pc = some q) : cod 24 pc = some q := (congrArg (List.lookup pc) (show mK 24 = k_24 from rfl)).trans h
theorem cod_25 {pc : Nat} {q : aI} (h : k_25.lookup pc = some q) : cod 25 pc = some q := (congrArg (List.lookup pc) (show mK 25 = k_25 from rfl)).trans h
theorem cod_26 {pc : Nat} {q : aI} (h : k_26.lookup pc = some q) : cod 26 pc = some q := (congrArg (List.lookup pc) (show mK 26 = k_26 from rfl)).trans h
theorem cod_27 {pc : Nat} {q : aI} (h : k_27.lookup pc = some q) : cod 27 pc = some q := (congrArg (List.lookup pc) (show mK 27 = k_27 from rfl)).trans h
theorem cod_28 {pc : Nat} {q : aI} (h : k_28.lookup pc = some q) : cod 28 pc = some q := (congrArg (List.lookup pc) (show mK 28 = k_28 from rfl)).trans h
theorem cod_29 {pc : Nat} {q : aI} (h : k_29.lookup pc = some q) : cod 29 pc = some q := (congrArg (List.lookup pc) (show mK 29 = k_29 from rfl)).trans h
theorem cod_30 {pc : Nat} {q : aI} (h : k_30.lookup pc = some q) : cod 30 pc = some q := (congrArg (List.lookup pc) (show mK 30 = k_30 from rfl)).trans h
theorem cod_31 {pc : Nat} {q : aI} (h : k_31.lookup pc = some q) : cod 31 pc = some q := (congrArg (List.lookup pc) (show mK 31 = k_31 from rfl)).trans h
theorem cod_32 {pc : Nat} {q : aI} (h : k_32.lookup pc = some q) : cod 32 pc = some q := (congrArg (List.lookup pc) (show mK 32 = k_32 from rfl)).trans h
theorem cod_33 {pc : Nat} {q : aI} (h : k_33.lookup pc = some q) : cod 33 pc = some q := (congrArg (List.lookup pc) (show mK 33 = k_33 from rfl)).trans h
theorem cod_34 {pc : Nat} {q : aI} (h : k_34.lookup pc = some q) : cod 34 pc = some q := (congrArg (List.lookup pc) (show mK 34 = k_34 from rfl)).trans h
theorem cod_35 {pc : Nat} {q : aI} (h : k_35.lookup pc = some q) : cod 35 pc = some q := (congrArg (List.lookup pc) (show mK 35 = k_35 from rfl)).trans h
theorem cod_36 {pc : Nat} {q : aI} (h : k_36.lookup pc = some q) : cod 36 pc = some q := (congrArg (List.lookup pc) (show mK 36 = k_36 from rfl)).trans h
theorem cod_37 {pc : Nat} {q : aI} (h : k_37.lookup pc = some q) : cod 37 pc = some q := (congrArg (List.lookup pc) (show mK 37 = k_37 from rfl)).trans h
theorem cod_38 {pc : Nat} {q : aI} (h : k_38.lookup pc = some q) : cod 38 pc = some q := (congrArg (List.lookup pc) (show mK 38 = k_38 from rfl)).trans h
theorem cod_39 {pc : Nat} {q : aI} (h : k_39.lookup pc = some q) : cod 39 pc = some q := (congrArg (List.lookup pc) (show mK 39 = k_39 from rfl)).trans h
theorem cod_40 {pc : Nat} {q : aI} (h : k_40.lookup pc = some q) : cod 40 pc = some q := (congrArg (List.lookup pc) (show mK 40 = k_40 from rfl)).trans h
theorem cod_41 {pc : Nat} {q : aI} (h : k_41.lookup pc = some q) : cod 41 pc = some q := (congrArg (List.lookup pc) (show mK 41 = k_41 from rfl)).trans h
theorem cod_42 {pc : Nat} {q : aI} (h : k_42.lookup pc = some q) : cod 42 pc = some q := (congrArg (List.lookup pc) (show mK 42 = k_42 from rfl)).trans h
theorem cod_43 {pc : Nat} {q : aI} (h : k_43.lookup pc = some q) : cod 43 pc = some q := (congrArg (List.lookup pc) (show mK 43 = k_43 from rfl)).trans h
theorem cod_44 {pc : Nat} {q : aI} (h : k_44.lookup pc = some q) : cod 44 pc = some q := (congrArg (List.lookup pc) (show mK 44 = k_44 from rfl)).trans h
theorem cod_45 {pc : Nat} {q : aI} (h : k_45.lookup pc = some q) : cod 45 pc = some q := (congrArg (List.lookup pc) (show mK 45 = k_45 from rfl)).trans h
theorem cod_46 {pc : Nat} {q : aI} (h : k_46.lookup pc = some q) : cod 46 pc = some q := (congrArg (List.lookup pc) (show mK 46 = k_46 from rfl)).trans h
theorem cod_47 {pc : Nat} {q : aI} (h : k_47.lookup pc = some q) : cod 47 pc = some q := (congrArg (List.lookup pc) (show mK 47 = k_47 from rfl)).trans h
theorem cod_48 {pc : Nat} {q : aI} (h : k_48.lookup pc = some q) : cod 48 pc = some q := (congrArg (List.lookup pc) (show mK 48 = k_48 from rfl)).trans h
theorem cod_49 {pc : Nat} {q : aI} (h : k_49.lookup pc = some q) : cod 49 pc = some q := (congrArg (List.lookup pc) (show mK 49 = k_49 from rfl)).trans h
theorem cod_50 {pc : Nat} {q : aI} (h : k_50.lookup pc = some q) : cod 50 pc = some q := (congrArg (List.lookup pc) (show mK 50 = k_50 from rfl)).trans h
theorem cod_51 {pc : Nat} {q : aI} (h : k_51.lookup pc = some q) : cod 51 pc = some q := (congrArg (List.lookup pc) (show mK 51 = k_51 from rfl)).trans h
theorem cod_52 {pc : Nat} {q : aI} (h : k_52.lookup pc = some q) : cod 52 pc = some q := (congrArg (List.lookup pc) (show mK 52 = k_52 from rfl)).trans h
theorem cod_53 {pc : Nat} {q : aI} (h : k_53.lookup pc = some q) : cod 53 pc = some q := (congrArg (List.lookup pc) (show mK 53 = k_53 from rfl)).trans h
theorem cod_54 {pc : Nat} {q : aI} (h : k_54.lookup pc = some q) : cod 54 pc = some q := (congrArg (List.lookup pc) (show mK 54 = k_54 from rfl)).trans h
theorem cod_55 {pc : Nat} {q : aI} (h : k_55.lookup pc = some q) : cod 55 pc = some q := (congrArg (List.lookup pc) (show mK 55 = k_55 from rfl)).trans h
theorem cod_56 {pc : Nat} {q : aI} (h : k_56.lookup pc = some q) : cod 56 pc = some q := (congrArg (List.lookup pc) (show mK 56 = k_56 from rfl)).trans h
theorem cod_57 {pc : Nat} {q : aI} (h : k_57.lookup pc = some q) : cod 57 pc = some q := (congrArg (List.lookup pc) (show mK 57 = k_57 from rfl)).trans h
theorem cod_58 {pc : Nat} {q : aI} (h : k_58.lookup pc = some q) : cod 58 pc = some q := (congrArg (List.lookup pc) (show mK 58 = k_58 from rfl)).trans h
theorem cod_59 {pc : Nat} {q : aI} (h : k_59.lookup pc = some q) : cod 59 pc = some q := (congrArg (List.lookup pc) (show mK 59 = k_59 from rfl)).trans h
theorem cod_60 {pc : Nat} {q : aI} (h : k_60.lookup pc = some q) : cod 60 pc = some q := (congrArg (List.lookup pc) (show mK 60 = k_60 from rfl)).trans h
theorem cod_61 {pc : Nat} {q : aI} (h : k_61.lookup pc = some q) : cod 61 pc = some q := (congrArg (List.lookup pc) (show mK 61 = k_61 from rfl)).trans h
theorem cod_62 {pc : Nat} {q : aI} (h : k_62.lookup pc = some q) : cod 62 pc = some q := (congrArg (List.lookup pc) (show mK 62 = k_62 from rfl)).trans h
theorem cod_63 {pc : Nat} {q : aI} (h : k_63.lookup pc = some q) : cod 63 pc = some q := (congrArg (List.lookup pc) (show mK 63 = k_63 from rfl)).trans h
theorem cod_64 {pc : Nat} {q : aI} (h : k_64.lookup pc = some q) : cod 64 pc = some q := (congrArg (List.lookup pc) (show mK 64 = k_64 from rfl)).trans h
theorem cod_65 {pc : Nat} {q : aI} (h : k_65.lookup pc = some q) : cod 65 pc = some q := (congrArg (List.lookup pc) (show mK 65 = k_65 from rfl)).trans h
theorem cod_66 {pc : Nat} {q : aI} (h : k_66.lookup pc = some q) : cod 66 pc = some q := (congrArg (List.lookup pc) (show mK 66 = k_66 from rfl)).trans h
theorem cod_67 {pc : Nat} {q : aI} (h : k_67.lookup pc = some q) : cod 67 pc = some q := (congrArg (List.lookup pc) (show mK 67 = k_67 from rfl)).trans h
theorem cod_68 {pc : Nat} {q : aI} (h : k_68.lookup pc = some q) : cod 68 pc = some q := (congrArg (List.lookup pc) (show mK 68 = k_68 from rfl)).trans h
theorem cod_69 {pc : Nat} {q : aI} (h : k_69.lookup pc = some q) : cod 69 pc = some q := (congrArg (List.lookup pc) (show mK 69 = k_69 from rfl)).trans h
theorem cod_70 {pc : Nat} {q : aI} (h : k_70.lookup pc = some q) : cod 70 pc = some q := (congrArg (List.lookup pc) (show mK 70 = k_70 from rfl)).trans h
theorem cod_71 {pc : Nat} {q : aI} (h : k_71.lookup pc = some q) : cod 71 pc = some q := (congrArg (List.lookup pc) (show mK 71 = k_71 from rfl)).trans h
theorem cod_72 {pc : Nat} {q : aI} (h : k_72.lookup pc = some q) : cod 72 pc = some q := (congrArg (List.lookup pc) (show mK 72 = k_72 from rfl)).trans h
theorem cod_73 {pc : Nat} {q : aI} (h : k_73.lookup pc = some q) : cod 73 pc = some q := (congrArg (List.lookup pc) (show mK 73 = k_73 from rfl)).trans h
theorem cod_74 {pc : Nat} {q : aI} (h : k_74.lookup pc = some q) : cod 74 pc = some q := (congrArg (List.lookup pc) (show mK 74 = k_74 from rfl)).trans h
theorem cod_75 {pc : Nat} {q : aI} (h : k_75.lookup pc = some q) : cod 75 pc = some q := (congrArg (List.lookup pc) (show mK 75 = k_75 from rfl)).trans h
theorem cod_76 {pc : Nat} {q : aI} (h : k_76.lookup pc = some q) : cod 76 pc = some q := (congrArg (List.lookup pc) (show mK 76 = k_76 from rfl)).trans h
theorem cod_77 {pc : Nat} {q : aI} (h : k_77.lookup pc = some q) : cod 77 pc = some q := (congrArg (List.lookup pc) (show mK 77 = k_77 from rfl)).trans h
theorem cod_78 {pc : Nat} {q : aI} (h : k_78.lookup pc = some q) : cod 78 pc = some q := (congrArg (List.lookup pc) (show mK 78 = k_78 from rfl)).trans h
theorem cod_79 {pc : Nat} {q : aI} (h : k_79.lookup pc = some q) : cod 79 pc = some q := (congrArg (List.lookup pc) (show mK 79 = k_79 from rfl)).trans h
theorem cod_80 {pc : Nat} {q : aI} (h : k_80.lookup pc = some q) : cod 80 pc = some q := (congrArg (List.lookup pc) (show mK 80 = k_80 from rfl)).trans h
theorem cod_81 {pc : Nat} {q : aI} (h : k_81.lookup pc = some q) : cod 81 pc = some q := (congrArg (List.lookup pc) (show mK 81 = k_81 from rfl)).trans h
theorem cod_82 {pc : Nat} {q : aI} (h : k_82.lookup pc = some q) : cod 82 pc = some q := (congrArg (List.lookup pc) (show mK 82 = k_82 from rfl)).trans h
theorem cod_83 {pc : Nat} {q : aI} (h : k_83.lookup pc = some q) : cod 83 pc = some q := (congrArg (List.lookup pc) (show mK 83 = k_83 from rfl)).trans h
theorem cod_84 {pc : Nat} {q : aI} (h : k_84.lookup pc = some q) : cod 84 pc = some q := (congrArg (List.lookup pc) (show mK 84 = k_84 from rfl)).trans h
theorem cod_85 {pc : Nat} {q : aI} (h : k_85.lookup pc = some q) : cod 85 pc = some q := (congrArg (List.lookup pc) (show mK 85 = k_85 from rfl)).trans h
theorem cod_86 {pc : Nat} {q : aI} (h : k_86.lookup pc = some q) : cod 86 pc = some q := (congrArg (List.lookup pc) (show mK 86 = k_86 from rfl)).trans h
theorem cod_87 {pc : Nat} {q : aI} (h : k_87.lookup pc = some q) : cod 87 pc = some q := (congrArg (List.lookup pc) (show mK 87 = k_87 from rfl)).trans h
theorem cod_88 {pc : Nat} {q : aI} (h : k_88.lookup pc = some q) : cod 88 pc = some q := (congrArg (List.lookup pc) (show mK 88 = k_88 from rfl)).trans h
theorem cod_89 {pc : Nat} {q : aI} (h : k_89.lookup pc = some q) : cod 89 pc = some q := (congrArg (List.lookup pc) (show mK 89 = k_89 from rfl)).trans h
theorem cod_90 {pc : Nat} {q : aI} (h : k_90.lookup pc = some q) : cod 90 pc = some q := (congrArg (List.lookup pc) (show mK 90 = k_90 from rfl)).trans h
theorem cod_91 {pc : Nat} {q : aI} (h : k_91.lookup pc = some q) : cod 91 pc = some q := (congrArg (List.lookup pc) (show mK 91 = k_91 from rfl)).trans h
theorem cod_92 {pc : Nat} {q : aI} (h : k_92.lookup pc = some q) : cod 92 pc = some q := (congrArg (List.lookup pc) (show mK 92 = k_92 from rfl)).trans h
theorem cod_93 {pc : Nat} {q : aI} (h : k_93.lookup pc = some q) : cod 93 pc = some q := (congrArg (List.lookup pc) (show mK 93 = k_93 from rfl)).trans h
theorem cod_94 {pc : Nat} {q : aI} (h : k_94.lookup pc = some q) : cod 94 pc = some q := (congrArg (List.lookup pc) (show mK 94 = k_94 from rfl)).trans h
theorem cod_95 {pc : Nat} {q : aI} (h : k_95.lookup pc = some q) : cod 95 pc = some q := (congrArg (List.lookup pc) (show mK 95 = k_95 from rfl)).trans h
theorem cod_96 {pc : Nat} {q : aI} (h : k_96.lookup pc = some q) : cod 96 pc = some q := (congrArg (List.lookup pc) (show mK 96 = k_96 from rfl)).trans h
theorem cod_97 {pc : Nat} {q : aI} (h : k_97.lookup pc = some q) : cod 97 pc = some q := (congrArg (List.lookup pc) (show mK 97 = k_97 from rfl)).trans h
theorem cod_98 {pc : Nat} {q : aI} (h : k_98.lookup pc = some q) : cod 98 pc = some q := (congrArg (List.lookup pc) (show mK 98 = k_98 from rfl)).trans h
theorem cod_99 {pc : Nat} {q : aI} (h : k_99.lookup pc = some q) : cod 99 pc = some q := (congrArg (List.lookup pc) (show mK 99 = k_99 from rfl)).trans h
theorem cod_100 {pc : Nat} {q : aI} (h : k_100.lookup pc = some q) : cod 100 pc = some q := (congrArg (List.lookup pc) (show mK 100 = k_100 from rfl)).trans h
theorem cod_101 {pc : Nat} {q : aI} (h : k_101.lookup pc = some q) : cod 101 pc = some q := (congrArg (List.lookup pc) (show mK 101 = k_101 from rfl)).trans h
theorem cod_102 {pc : Nat} {q : aI} (h : k_102.lookup pc = some q) : cod 102 pc = some q := (congrArg (List.lookup pc) (show mK 102 = k_102 from rfl)).trans h
theorem cod_103 {pc : Nat} {q : aI} (h : k_103.lookup pc = some q) : cod 103 pc = some q := (congrArg (List.lookup pc) (show mK 103 = k_103 from rfl)).trans h
theorem cod_104 {pc : Nat} {q : aI} (h : k_104.lookup pc = some q) : cod 104 pc = some q := (congrArg (List.lookup pc) (show mK 104 = k_104 from rfl)).trans h
theorem cod_105 {pc : Nat} {q : aI} (h : k_105.lookup pc = some q) : cod 105 pc = some q := (congrArg (List.lookup pc) (show mK 105 = k_105 from rfl)).trans h
theorem cod_106 {pc : Nat} {q : aI} (h : k_106.lookup pc = some q) : cod 106 pc = some q := (congrArg (List.lookup pc) (show mK 106 = k_106 from rfl)).trans h
theorem cod_107 {pc : Nat} {q : aI} (h : k_107.lookup pc = some q) : cod 107 pc = some q := (congrArg (List.lookup pc) (show mK 107 = k_107 from rfl)).trans h
theorem cod_108 {pc : Nat} {q : aI} (h : k_108.lookup pc = some q) : cod 108 pc = some q := (congrArg (List.lookup pc) (show mK 108 = k_108 from rfl)).trans h
theorem cod_109 {pc : Nat} {q : aI} (h : k_109.lookup pc = some q) : cod 109 pc = some q := (congrArg (List.lookup pc) (show mK 109 = k_109 from rfl)).trans h
theorem cod_110 {pc : Nat} {q : aI} (h : k_110.lookup pc = some q) : cod 110 pc = some q := (congrArg (List.lookup pc) (show mK 110 = k_110 from rfl)).trans h
theorem cod_111 {pc : Nat} {q : aI} (h : k_111.lookup pc = some q) : cod 111 pc = some q := (congrArg (List.lookup pc) (show mK 111 = k_111 from rfl)).trans h
theorem cod_112 {pc : Nat} {q : aI} (h : k_112.lookup pc = some q) : cod 112 pc = some q := (congrArg (List.lookup pc) (show mK 112 = k_112 from rfl)).trans h
theorem cod_113 {pc : Nat} {q : aI} (h : k_113.lookup pc = some q) : cod 113 pc = some q := (congrArg (List.lookup pc) (show mK 113 = k_113 from rfl)).trans h
theorem cod_114 {pc : Nat} {q : aI} (h : k_114.lookup pc = some q) : cod 114 pc = some q := (congrArg (List.lookup pc) (show mK 114 = k_114 from rfl)).trans h
theorem cod_115 {pc : Nat} {q : aI} (h : k_115.lookup pc = some q) : cod 115 pc = some q := (congrArg (List.lookup pc) (show mK 115 = k_115 from rfl)).trans h
theorem cod_116 {pc : Nat} {q : aI} (h : k_116.lookup pc = some q) : cod 116 pc = some q := (congrArg (List.lookup pc) (show mK 116 = k_116 from rfl)).trans h
theorem cod_117 {pc : Nat} {q : aI} (h : k_117.lookup pc = some q) : cod 117 pc = some q := (congrArg (List.lookup pc) (show mK 117 = k_117 from rfl)).trans h
theorem cod_118 {pc : Nat} {q : aI} (h : k_118.lookup pc = some q) : cod 118 pc = some q := (congrArg (List.lookup pc) (show mK 118 = k_118 from rfl)).trans h
theorem cod_119 {pc : Nat} {q : aI} (h : k_119.lookup pc = some q) : cod 119 pc = some q := (congrArg (List.lookup pc) (show mK 119 = k_119 from rfl)).trans h
theorem cod_120 {pc : Nat} {q : aI} (h : k_120.lookup pc = some q) : cod 120 pc = some q := (congrArg (List.lookup pc) (show mK 120 = k_120 from rfl)).trans h
theorem cod_121 {pc : Nat} {q : aI} (h : k_121.lookup pc = some q) : cod 121 pc = some q := (congrArg (List.lookup pc) (show mK 121 = k_121 from rfl)).trans h
theorem cod_122 {pc : Nat} {q : aI} (h : k_122.lookup pc = some q) : cod 122 pc = some q := (congrArg (List.lookup pc) (show mK 122 = k_122 from rfl)).trans h
theorem cod_123 {pc : Nat} {q : aI} (h : k_123.lookup pc = some q) : cod 123 pc = some q := (congrArg (List.lookup pc) (show mK 123 = k_123 from rfl)).trans h
theorem cod_124 {pc : Nat} {q : aI} (h : k_124.lookup pc = some q) : cod 124 pc = some q := (congrArg (List.lookup pc) (show mK 124 = k_124 from rfl)).trans h
theorem cod_125 {pc : Nat} {q : aI} (h : k_125.lookup pc = some q) : cod 125 pc = some q := (congrArg (List.lookup pc) (show mK 125 = k_125 from rfl)).trans h
theorem cod_126 {pc : Nat} {q : aI} (h : k_126.lookup pc = some q) : cod 126 pc = some q := (congrArg (List.lookup pc) (show mK 126 = k_126 from rfl)).trans h
theorem cod_127 {pc : Nat} {q : aI} (h : k_127.lookup pc = some q) : cod 127 pc = some q := (congrArg (List.lookup pc) (show mK 127 = k_127 from rfl)).trans h
theorem cod_128 {pc : Nat} {q : aI} (h : k_128.lookup pc = some q) : cod 128 pc = some q := (congrArg (List.lookup pc) (show mK 128 = k_128 from rfl)).trans h
theorem cod_129 {pc : Nat} {q : aI} (h : k_129.lookup pc = some q) : cod 129 pc = some q := (congrArg (List.lookup pc) (show mK 129 = k_129 from rfl)).trans h
theorem cod_130 {pc : Nat} {q : aI} (h : k_130.lookup pc = some q) : cod 130 pc = some q := (congrArg (List.lookup pc) (show mK 130 = k_130 from rfl)).trans h
theorem cod_131 {pc : Nat} {q : aI} (h : k_131.lookup pc = some q) : cod 131 pc = some q := (congrArg (List.lookup pc) (show mK 131 = k_131 from rfl)).trans h
theorem cod_132 {pc : Nat} {q : aI} (h : k_132.lookup pc = some q) : cod 132 pc = some q := (congrArg (List.lookup pc) (show mK 132 = k_132 from rfl)).trans h
theorem cod_133 {pc : Nat} {q : aI} (h : k_133.lookup pc = some q) : cod 133 pc = some q := (congrArg (List.lookup pc) (show mK 133 = k_133 from rfl)).trans h
theorem cod_134 {pc : Nat} {q : aI} (h : k_134.lookup pc = some q) : cod 134 pc = some q := (congrArg (List.lookup pc) (show mK 134 = k_134 from rfl)).trans h
theorem cod_135 {pc : Nat} {q : aI} (h : k_135.lookup pc = some q) : cod 135 pc = some q := (congrArg (List.lookup pc) (show mK 135 = k_135 from rfl)).trans h
theorem cod_136 {pc : Nat} {q : aI} (h : k_136.lookup pc = some q) : cod 136 pc = some q := (congrArg (List.lookup pc) (show mK 136 = k_136 from rfl)).trans h
theorem cod_137 {pc : Nat} {q : aI} (h : k_137.lookup pc = some q) : cod 137 pc = some q := (congrArg (List.lookup pc) (show mK 137 = k_137 from rfl)).trans h
theorem cod_138 {pc : Nat} {q : aI} (h : k_138.lookup pc = some q) : cod 138 pc = some q := (congrArg (List.lookup pc) (show mK 138 = k_138 from rfl)).trans h
theorem cod_139 {pc : Nat} {q : aI} (h : k_139.lookup pc = some q) : cod 139 pc = some q := (congrArg (List.lookup pc) (show mK 139 = k_139 from rfl)).trans h
theorem cod_140 {pc : Nat} {q : aI} (h : k_140.lookup pc = some q) : cod 140 pc = some q := (congrArg (List.lookup pc) (show mK 140 = k_140 from rfl)).trans h
theorem cod_141 {pc : Nat} {q : aI} (h : k_141.lookup pc = some q) : cod 141 pc = some q := (congrArg (List.lookup pc) (show mK 141 = k_141 from rfl)).trans h
theorem cod_142 {pc : Nat} {q : aI} (h : k_142.lookup pc = some q) : cod 142 pc = some q := (congrArg (List.lookup pc) (show mK 142 = k_142 from rfl)).trans h
theorem cod_143 {pc : Nat} {q : aI} (h : k_143.lookup pc = some q) : cod 143 pc = some q := (congrArg (List.lookup pc) (show mK 143 = k_143 from rfl)).trans h
theorem cod_144 {pc : Nat} {q : aI} (h : k_144.lookup pc = some q) : cod 144 pc = some q := (congrArg (List.lookup pc) (show mK 144 = k_144 from rfl)).trans h
theorem cod_145 {pc : Nat} {q : aI} (h : k_145.lookup pc = some q) : cod 145 pc = some q := (congrArg (List.lookup pc) (show mK 145 = k_145 from rfl)).trans h
theorem cod_146 {pc : Nat} {q : aI} (h : k_146.lookup pc = some q) : cod 146 pc = some q := (congrArg (List.lookup pc) (show mK 146 = k_146 from rfl)).trans h
theorem cod_147 {pc : Nat} {q : aI} (h : k_147.lookup pc = some q) : cod 147 pc = some q := (congrArg (List.lookup pc) (show mK 147 = k_147 from rfl)).trans h
theorem cod_148 {pc : Nat} {q : aI} (h : k_148.lookup pc = some q) : cod 148 pc = some q := (congrArg (List.lookup pc) (show mK 148 = k_148 from rfl)).trans h
theorem cod_149 {pc : Nat} {q : aI} (h : k_149.lookup pc = some q) : cod 149 pc = some q := (congrArg (List.lookup pc) (show mK 149 = k_149 from rfl)).trans h
theorem cod_150 {pc : Nat} {q : aI} (h : k_150.lookup pc = some q) : cod 150 pc = some q := (congrArg (List.lookup pc) (show mK 150 = k_150 from rfl)).trans h
theorem cod_151 {pc : Nat} {q : aI} (h : k_151.lookup pc = some q) : cod 151 pc = some q := (congrArg (List.lookup pc) (show mK 151 = k_151 from rfl)).trans h
theorem cod_152 {pc : Nat} {q : aI} (h : k_152.lookup pc = some q) : cod 152 pc = some q := (congrArg (List.lookup pc) (show mK 152 = k_152 from rfl)).trans h
theorem cod_153 {pc : Nat} {q : aI} (h : k_153.lookup pc = some q) : cod 153 pc = some q := (congrArg (List.lookup pc) (show mK 153 = k_153 from rfl)).trans h
theorem cod_154 {pc : Nat} {q : aI} (h : k_154.lookup pc = some q) : cod 154 pc = some q := (congrArg (List.lookup pc) (show mK 154 = k_154 from rfl)).trans h
theorem cod_155 {pc : Nat} {q : aI} (h : k_155.lookup pc = some q) : cod 155 pc = some q := (congrArg (List.lookup pc) (show mK 155 = k_155 from rfl)).trans h
theorem cod_156 {pc : Nat} {q : aI} (h : k_156.lookup pc = some q) : cod 156 pc = some q := (congrArg (List.lookup pc) (show mK 156 = k_156 from rfl)).trans h
theorem cod_157 {pc : Nat} {q : aI} (h : k_157.lookup pc = some q) : cod 157 pc = some q := (congrArg (List.lookup pc) (show mK 157 = k_157 from rfl)).trans h
theorem cod_158 {pc : Nat} {q : aI} (h : k_158.lookup pc = some q) : cod 158 pc = some q := (congrArg (List.lookup pc) (show mK 158 = k_158 from rfl)).trans h
theorem cod_159 {pc : Nat} {q : aI} (h : k_159.lookup pc = some q) : cod 159 pc = some q := (congrArg (List.lookup pc) (show mK 159 = k_159 from rfl)).trans h
theorem cod_160 {pc : Nat} {q : aI} (h : k_160.lookup pc = some q) : cod 160 pc = some q := (congrArg (List.lookup pc) (show mK 160 = k_160 from rfl)).trans h
theorem cod_161 {pc : Nat} {q : aI} (h : k_161.lookup pc = some q) : cod 161 pc = some q := (congrArg (List.lookup pc) (show mK 161 = k_161 from rfl)).trans h
theorem cod_162 {pc : Nat} {q : aI} (h : k_162.lookup pc = some q) : cod 162 pc = some q := (congrArg (List.lookup pc) (show mK 162 = k_162 from rfl)).trans h
theorem cod_163 {pc : Nat} {q : aI} (h : k_163.lookup pc = some q) : cod 163 pc = some q := (congrArg (List.lookup pc) (show mK 163 = k_163 from rfl)).trans h
theorem cod_164 {pc : Nat} {q : aI} (h : k_164.lookup pc = some q) : cod 164 pc = some q := (congrArg (List.lookup pc) (show mK 164 = k_164 from rfl)).trans h
theorem cod_165 {pc : Nat} {q : aI} (h : k_165.lookup pc = some q) : cod 165 pc = some q := (congrArg (List.lookup pc) (show mK 165 = k_165 from rfl)).trans h
theorem cod_166 {pc : Nat} {q : aI} (h : k_166.lookup pc = some q) : cod 166 pc = some q := (congrArg (List.lookup pc) (show mK 166 = k_166 from rfl)).trans h
theorem cod_167 {pc : Nat} {q : aI} (h : k_167.lookup pc = some q) : cod 167 pc = some q := (congrArg (List.lookup pc) (show mK 167 = k_167 from rfl)).trans h
theorem cod_168 {pc : Nat} {q : aI} (h : k_168.lookup pc = some q) : cod 168 pc = some q := (congrArg (List.lookup pc) (show mK 168 = k_168 from rfl)).trans h
theorem cod_169 {pc : Nat} {q : aI} (h : k_169.lookup pc = some q) : cod 169 pc = some q := (congrArg (List.lookup pc) (show mK 169 = k_169 from rfl)).trans h
theorem cod_170 {pc : Nat} {q : aI} (h : k_170.lookup pc = some q) : cod 170 pc = some q := (congrArg (List.lookup pc) (show mK 170 = k_170 from rfl)).trans h
theorem cod_171 {pc : Nat} {q : aI} (h : k_171.lookup pc = some q) : cod 171 pc = some q := (congrArg (List.lookup pc) (show mK 171 = k_171 from rfl)).trans h
theorem cod_172 {pc : Nat} {q : aI} (h : k_172.lookup pc = some q) : cod 172 pc = some q := (congrArg (List.lookup pc) (show mK 172 = k_172 from rfl)).trans h
theorem cod_173 {pc : Nat} {q : aI} (h : k_173.lookup pc = some q) : cod 173 pc = some q := (congrArg (List.lookup pc) (show mK 173 = k_173 from rfl)).trans h
theorem cod_174 {pc : Nat} {q : aI} (h : k_174.lookup pc = some q) : cod 174 pc = some q := (congrArg (List.lookup pc) (show mK 174 = k_174 from rfl)).trans h
theorem cod_175 {pc : Nat} {q : aI} (h : k_175.lookup pc = some q) : cod 175 pc = some q := (congrArg (List.lookup pc) (show mK 175 = k_175 from rfl)).trans h
theorem cod_176 {pc : Nat} {q : aI} (h : k_176.lookup pc = some q) : cod 176 pc = some q := (congrArg (List.lookup pc) (show mK 176 = k_176 from rfl)).trans h
theorem cod_177 {pc : Nat} {q : aI} (h : k_177.lookup pc = some q) : cod 177 pc = some q := (congrArg (List.lookup pc) (show mK 177 = k_177 from rfl)).trans h
theorem cod_178 {pc : Nat} {q : aI} (h : k_178.lookup pc = some q) : cod 178 pc = some q := (congrArg (List.lookup pc) (show mK 178 = k_178 from rfl)).trans h
theorem cod_179 {pc : Nat} {q : aI} (h : k_179.lookup pc = some q) : cod 179 pc = some q := (congrArg (List.lookup pc) (show mK 179 = k_179 from rfl)).trans h
theorem cod_180 {pc : Nat} {q : aI} (h : k_180.lookup pc = some q) : cod 180 pc = some q := (congrArg (List.lookup pc) (show mK 180 = k_180 from rfl)).trans h
theorem cod_181 {pc : Nat} {q : aI} (h : k_181.lookup pc = some q) : cod 181 pc = some q := (congrArg (List.lookup pc) (show mK 181 = k_181 from rfl)).trans h
theorem cod_182 {pc : Nat} {q : aI} (h : k_182.lookup pc = some q) : cod 182 pc = some q := (congrArg (List.lookup pc) (show mK 182 = k_182 from rfl)).trans h
theorem cod_183 {pc : Nat} {q : aI} (h : k_183.lookup pc = some q) : cod 183 pc = some q := (congrArg (List.lookup pc) (show mK 183 = k_183 from rfl)).trans h
theorem cod_184 {pc : Nat} {q : aI} (h : k_184.lookup pc = some q) : cod 184 pc = some q := (congrArg (List.lookup pc) (show mK 184 = k_184 from rfl)).trans h
theorem cod_185 {pc : Nat} {q : aI} (h : k_185.lookup pc = some q) : cod 185 pc = some q := (congrArg (List.lookup pc) (show mK 185 = k_185 from rfl)).trans h
theorem cod_186 {pc : Nat} {q : aI} (h : k_186.lookup pc = some q) : cod 186 pc = some q := (congrArg (List.lookup pc) (show mK 186 = k_186 from rfl)).trans h
theorem cod_187 {pc : Nat} {q : aI} (h : k_187.lookup pc = some q) : cod 187 pc = some q := (congrArg (List.lookup pc) (show mK 187 = k_187 from rfl)).trans h
theorem cod_188 {pc : Nat} {q : aI} (h : k_188.lookup pc = some q) : cod 188 pc = some q := (congrArg (List.lookup pc) (show mK 188 = k_188 from rfl)).trans h
theorem cod_189 {pc : Nat} {q : aI} (h : k_189.lookup pc = some q) : cod 189 pc = some q := (congrArg (List.lookup pc) (show mK 189 = k_189 from rfl)).trans h
theorem cod_190 {pc : Nat} {q : aI} (h : k_190.lookup pc = some q) : cod 190 pc = some q := (congrArg (List.lookup pc) (show mK 190 = k_190 from rfl)).trans h
theorem cod_191 {pc : Nat} {q : aI} (h : k_191.lookup pc = some q) : cod 191 pc = some q := (congrArg (List.lookup pc) (show mK 191 = k_191 from rfl)).trans h
theorem cod_192 {pc : Nat} {q : aI} (h : k_192.lookup pc = some q) : cod 192 pc = some q := (congrArg (List.lookup pc) (show mK 192 = k_192 from rfl)).trans h
theorem cod_193 {pc : Nat} {q : aI} (h : k_193.lookup pc = some q) : cod 193 pc = some q := (congrArg (List.lookup pc) (show mK 193 = k_193 from rfl)).trans h
theorem cod_194 {pc : Nat} {q : aI} (h : k_194.lookup pc = some q) : cod 194 pc = some q := (congrArg (List.lookup pc) (show mK 194 = k_194 from rfl)).trans h
theorem cod_195 {pc : Nat} {q : aI} (h : k_195.lookup pc = some q) : cod 195 pc = some q := (congrArg (List.lookup pc) (show mK 195 = k_195 from rfl)).trans h
theorem cod_196 {pc : Nat} {q : aI} (h : k_196.lookup pc = some q) : cod 196 pc = some q := (congrArg (List.lookup pc) (show mK 196 = k_196 from rfl)).trans h
theorem cod_197 {pc : Nat} {q : aI} (h : k_197.lookup pc = some q) : cod 197 pc = some q := (congrArg (List.lookup pc) (show mK 197 = k_197 from rfl)).trans h
theorem cod_198 {pc : Nat} {q : aI} (h : k_198.lookup pc = some q) : cod 198 pc = some q := (congrArg (List.lookup pc) (show mK 198 = k_198 from rfl)).trans h
theorem cod_199 {pc : Nat} {q : aI} (h : k_199.lookup pc = some q) : cod 199 pc = some q := (congrArg (List.lookup pc) (show mK 199 = k_199 from rfl)).trans h
theorem cod_200 {pc : Nat} {q : aI} (h : k_200.lookup pc = some q) : cod 200 pc = some q := (congrArg (List.lookup pc) (show mK 200 = k_200 from rfl)).trans h
theorem cod_201 {pc : Nat} {q : aI} (h : k_201.lookup pc = some q) : cod 201 pc = some q := (congrArg (List.lookup pc) (show mK 201 = k_201 from rfl)).trans h
theorem cod_202 {pc : Nat} {q : aI} (h : k_202.lookup pc = some q) : cod 202 pc = some q := (congrArg (List.lookup pc) (show mK 202 = k_202 from rfl)).trans h
theorem cod_203 {pc : Nat} {q : aI} (h : k_203.lookup pc = some q) : cod 203 pc = some q := (congrArg (List.lookup pc) (show mK 203 = k_203 from rfl)).trans h
theorem cod_204 {pc : Nat} {q : aI} (h : k_204.lookup pc = some q) : cod 204 pc = some q := (congrArg (List.lookup pc) (show mK 204 = k_204 from rfl)).trans h
theorem cod_205 {pc : Nat} {q : aI} (h : k_205.lookup pc = some q) : cod 205 pc = some q := (congrArg (List.lookup pc) (show mK 205 = k_205 from rfl)).trans h
theorem cod_206 {pc : Nat} {q : aI} (h : k_206.lookup pc = some q) : cod 206 pc = some q := (congrArg (List.lookup pc) (show mK 206 = k_206 from rfl)).trans h
theorem cod_207 {pc : Nat} {q : aI} (h : k_207.lookup pc = some q) : cod 207 pc = some q := (congrArg (List.lookup pc) (show mK 207 = k_207 from rfl)).trans h
theorem cod_208 {pc : Nat} {q : aI} (h : k_208.lookup pc = some q) : cod 208 pc = some q := (congrArg (List.lookup pc) (show mK 208 = k_208 from rfl)).trans h
theorem cod_209 {pc : Nat} {q : aI} (h : k_209.lookup pc = some q) : cod 209 pc = some q := (congrArg (List.lookup pc) (show mK 209 = k_209 from rfl)).trans h
theorem cod_210 {pc : Nat} {q : aI} (h : k_210.lookup pc = some q) : cod 210 pc = some q := (congrArg (List.lookup pc) (show mK 210 = k_210 from rfl)).trans h
theorem cod_211 {pc : Nat} {q : aI} (h : k_211.lookup pc = some q) : cod 211 pc = some q := (congrArg (List.lookup pc) (show mK 211 = k_211 from rfl)).trans h
theorem cod_212 {pc : Nat} {q : aI} (h : k_212.lookup pc = some q) : cod 212 pc = some q := (congrArg (List.lookup pc) (show mK 212 = k_212 from rfl)).trans h
theorem cod_213 {pc : Nat} {q : aI} (h : k_213.lookup pc = some q) : cod 213 pc = some q := (congrArg (List.lookup pc) (show mK 213 = k_213 from rfl)).trans h
theorem cod_214 {pc : Nat} {q : aI} (h : k_214.lookup pc = some q) : cod 214 pc = some q := (congrArg (List.lookup pc) (show mK 214 = k_214 from rfl)).trans h
theorem cod_215 {pc : Nat} {q : aI} (h : k_215.lookup pc = some q) : cod 215 pc = some q := (congrArg (List.lookup pc) (show mK 215 = k_215 from rfl)).trans h
theorem cod_216 {pc : Nat} {q : aI} (h : k_216.lookup pc = some q) : cod 216 pc = some q := (congrArg (List.lookup pc) (show mK 216 = k_216 from rfl)).trans h
theorem cod_217 {pc : Nat} {q : aI} (h : k_217.lookup pc = some q) : cod 217 pc = some q := (congrArg (List.lookup pc) (show mK 217 = k_217 from rfl)).trans h
theorem cod_218 {pc : Nat} {q : aI} (h : k_218.lookup pc = some q) : cod 218 pc = some q := (congrArg (List.lookup pc) (show mK 218 = k_218 from rfl)).trans h
theorem cod_219 {pc : Nat} {q : aI} (h : k_219.lookup pc = some q) : cod 219 pc = some q := (congrArg (List.lookup pc) (show mK 219 = k_219 from rfl)).trans h
theorem cod_220 {pc : Nat} {q : aI} (h : k_220.lookup pc = some q) : cod 220 pc = some q := (congrArg (List.lookup pc) (show mK 220 = k_220 from rfl)).trans h
theorem cod_221 {pc : Nat} {q : aI} (h : k_221.lookup pc = some q) : cod 221 pc = some q := (congrArg (List.lookup pc) (show mK 221 = k_221 from rfl)).trans h
theorem cod_222 {pc : Nat} {q : aI} (h : k_222.lookup pc = some q) : cod 222 pc = some q := (congrArg (List.lookup pc) (show mK 222 = k_222 from rfl)).trans h
theorem cod_223 {pc : Nat} {q : aI} (h : k_223.lookup pc = some q) : cod 223 pc = some q := (congrArg (List.lookup pc) (show mK 223 = k_223 from rfl)).trans h
theorem cod_224 {pc : Nat} {q : aI} (h : k_224.lookup pc = some q) : cod 224 pc = some q := (congrArg (List.lookup pc) (show mK 224 = k_224 from rfl)).trans h
theorem cod_225 {pc : Nat} {q : aI} (h : k_225.lookup pc = some q) : cod 225 pc = some q := (congrArg (List.lookup pc) (show mK 225 = k_225 from rfl)).trans h
theorem cod_226 {pc : Nat} {q : aI} (h : k_226.lookup pc = some q) : cod 226 pc = some q := (congrArg (List.lookup pc) (show mK 226 = k_226 from rfl)).trans h
theorem cod_227 {pc : Nat} {q : aI} (h : k_227.lookup pc = some q) : cod 227 pc = some q := (congrArg (List.lookup pc) (show mK 227 = k_227 from rfl)).trans h
theorem cod_228 {pc : Nat} {q : aI} (h : k_228.lookup pc = some q) : cod 228 pc = some q := (congrArg (List.lookup pc) (show mK 228 = k_228 from rfl)).trans h
theorem cod_229 {pc : Nat} {q : aI} (h : k_229.lookup pc = some q) : cod 229 pc = some q := (congrArg (List.lookup pc) (show mK 229 = k_229 from rfl)).trans h
theorem cod_230 {pc : Nat} {q : aI} (h : k_230.lookup pc = some q) : cod 230 pc = some q := (congrArg (List.lookup pc) (show mK 230 = k_230 from rfl)).trans h
theorem cod_231 {pc : Nat} {q : aI} (h : k_231.lookup pc = some q) : cod 231 pc = some q := (congrArg (List.lookup pc) (show mK 231 = k_231 from rfl)).trans h
theorem cod_232 {pc : Nat} {q : aI} (h : k_232.lookup pc = some q) : cod 232 pc = some q := (congrArg (List.lookup pc) (show mK 232 = k_232 from rfl)).trans h
theorem cod_233 {pc : Nat} {q : aI} (h : k_233.lookup pc = some q) : cod 233 pc = some q := (congrArg (List.lookup pc) (show mK 233 = k_233 from rfl)).trans h
theorem cod_234 {pc : Nat} {q : aI} (h : k_234.lookup pc = some q) : cod 234 pc = some q := (congrArg (List.lookup pc) (show mK 234 = k_234 from rfl)).trans h
theorem cod_235 {pc : Nat} {q : aI} (h : k_235.lookup pc = some q) : cod 235 pc = some q := (congrArg (List.lookup pc) (show mK 235 = k_235 from rfl)).trans h
theorem cod_236 {pc : Nat} {q : aI} (h : k_236.lookup pc = some q) : cod 236 pc = some q := (congrArg (List.lookup pc) (show mK 236 = k_236 from rfl)).trans h
theorem cod_237 {pc : Nat} {q : aI} (h : k_237.lookup pc = some q) : cod 237 pc = some q := (congrArg (List.lookup pc) (show mK 237 = k_237 from rfl)).trans h
theorem cod_238 {pc : Nat} {q : aI} (h : k_238.lookup pc = some q) : cod 238 pc = some q := (congrArg (List.lookup pc) (show mK 238 = k_238 from rfl)).trans h
theorem cod_239 {pc : Nat} {q : aI} (h : k_239.lookup pc = some q) : cod 239 pc = some q := (congrArg (List.lookup pc) (show mK 239 = k_239 from rfl)).trans h
theorem cod_240 {pc : Nat} {q : aI} (h : k_240.lookup pc = some q) : cod 240 pc = some q := (congrArg (List.lookup pc) (show mK 240 = k_240 from rfl)).trans h
theorem cod_241 {pc : Nat} {q : aI} (h : k_241.lookup pc = some q) : cod 241 pc = some q := (congrArg (List.lookup pc) (show mK 241 = k_241 from rfl)).trans h
theorem cod_242 {pc : Nat} {q : aI} (h : k_242.lookup pc = some q) : cod 242 pc = some q := (congrArg (List.lookup pc) (show mK 242 = k_242 from rfl)).trans h
theorem cod_243 {pc : Nat} {q : aI} (h : k_243.lookup pc = some q) : cod 243 pc = some q := (congrArg (List.lookup pc) (show mK 243 = k_243 from rfl)).trans h
theorem cod_244 {pc : Nat} {q : aI} (h : k_244.lookup pc = some q) : cod 244 pc = some q := (congrArg (List.lookup pc) (show mK 244 = k_244 from rfl)).trans h
theorem cod_245 {pc : Nat} {q : aI} (h : k_245.lookup pc = some q) : cod 245 pc = some q := (congrArg (List.lookup pc) (show mK 245 = k_245 from rfl)).trans h
theorem cod_246 {pc : Nat} {q : aI} (h : k_246.lookup pc = some q) : cod 246 pc = some q := (congrArg (List.lookup pc) (show mK 246 = k_246 from rfl)).trans h
theorem cod_247 {pc : Nat} {q : aI} (h : k_247.lookup pc = some q) : cod 247 pc = some q := (congrArg (List.lookup pc) (show mK 247 = k_247 from rfl)).trans h
theorem cod_248 {pc : Nat} {q : aI} (h : k_248.lookup pc = some q) : cod 248 pc = some q := (congrArg (List.lookup pc) (show mK 248 = k_248 from rfl)).trans h
theorem cod_249 {pc : Nat} {q : aI} (h : k_249.lookup pc = some q) : cod 249 pc = some q := (congrArg (List.lookup pc) (show mK 249 = k_249 from rfl)).trans h
theorem cod_250 {pc : Nat} {q : aI} (h : k_250.lookup pc = some q) : cod 250 pc = some q := (congrArg (List.lookup pc) (show mK 250 = k_250 from rfl)).trans h
theorem cod_251 {pc : Nat} {q : aI} (h : k_251.lookup pc = some q) : cod 251 pc = some q := (congrArg (List.lookup pc) (show mK 251 = k_251 from rfl)).trans h
theorem cod_252 {pc : Nat} {q : aI} (h : k_252.lookup pc = some q) : cod 252 pc = some q := (congrArg (List.lookup pc) (show mK 252 = k_252 from rfl)).trans h
theorem cod_253 {pc : Nat} {q : aI} (h : k_253.lookup pc = some q) : cod 253 pc = some q := (congrArg (List.lookup pc) (show mK 253 = k_253 from rfl)).trans h
theorem cod_254 {pc : Nat} {q : aI} (h : k_254.lookup pc = some q) : cod 254 pc = some q := (congrArg (List.lookup pc) (show mK 254 = k_254 from rfl)).trans h
theorem cod_255 {pc : Nat} {q : aI} (h : k_255.lookup pc = some q) : cod 255 pc = some q := (congrArg (List.lookup pc) (show mK 255 = k_255 from rfl)).trans h
theorem cod_256 {pc : Nat} {q : aI} (h : k_256.lookup pc = some q) : cod 256 pc = some q := (congrArg (List.lookup pc) (show mK 256 = k_256 from rfl)).trans h
theorem cod_257 {pc : Nat} {q : aI} (h : k_257.lookup pc = some q) : cod 257 pc = some q := (congrArg (List.lookup pc) (show mK 257 = k_257 from rfl)).trans h
theorem cod_258 {pc : Nat} {q : aI} (h : k_258.lookup pc = some q) : cod 258 pc = some q := (congrArg (List.lookup pc) (show mK 258 = k_258 from rfl)).trans h
theorem cod_259 {pc : Nat} {q : aI} (h : k_259.lookup pc = some q) : cod 259 pc = some q := (congrArg (List.lookup pc) (show mK 259 = k_259 from rfl)).trans h
theorem cod_260 {pc : Nat} {q : aI} (h : k_260.lookup pc = some q) : cod 260 pc = some q := (congrArg (List.lookup pc) (show mK 260 = k_260 from rfl)).trans h
theorem cod_261 {pc : Nat} {q : aI} (h : k_261.lookup pc = some q) : cod 261 pc = some q := (congrArg (List.lookup pc) (show mK 261 = k_261 from rfl)).trans h
theorem cod_262 {pc : Nat} {q : aI} (h : k_262.lookup pc = some q) : cod 262 pc = some q := (congrArg (List.lookup pc) (show mK 262 = k_262 from rfl)).trans h
theorem cod_263 {pc : Nat} {q : aI} (h : k_263.lookup pc = some q) : cod 263 pc = some q := (congrArg (List.lookup pc) (show mK 263 = k_263 from rfl)).trans h
theorem cod_264 {pc : Nat} {q : aI} (h : k_264.lookup pc = some q) : cod 264 pc = some q := (congrArg (List.lookup pc) (show mK 264 = k_264 from rfl)).trans h
theorem cod_265 {pc : Nat} {q : aI} (h : k_265.lookup pc = some q) : cod 265 pc = some q := (congrArg (List.lookup pc) (show mK 265 = k_265 from rfl)).trans h
theorem cod_266 {pc : Nat} {q : aI} (h : k_266.lookup pc = some q) : cod 266 pc = some q := (congrArg (List.lookup pc) (show mK 266 = k_266 from rfl)).trans h
theorem cod_267 {pc : Nat} {q : aI} (h : k_267.lookup pc = some q) : cod 267 pc = some q := (congrArg (List.lookup pc) (show mK 267 = k_267 from rfl)).trans h
theorem cod_268 {pc : Nat} {q : aI} (h : k_268.lookup pc = some q) : cod 268 pc = some q := (congrArg (List.lookup pc) (show mK 268 = k_268 from rfl)).trans h
theorem cod_269 {pc : Nat} {q : aI} (h : k_269.lookup pc = some q) : cod 269 pc = some q := (congrArg (List.lookup pc) (show mK 269 = k_269 from rfl)).trans h
theorem cod_270 {pc : Nat} {q : aI} (h : k_270.lookup pc = some q) : cod 270 pc = some q := (congrArg (List.lookup pc) (show mK 270 = k_270 from rfl)).trans h
theorem cod_271 {pc : Nat} {q : aI} (h : k_271.lookup pc = some q) : cod 271 pc = some q := (congrArg (List.lookup pc) (show mK 271 = k_271 from rfl)).trans h
theorem cod_272 {pc : Nat} {q : aI} (h : k_272.lookup pc = some q) : cod 272 pc = some q := (congrArg (List.lookup pc) (show mK 272 = k_272 from rfl)).trans h
theorem cod_273 {pc : Nat} {q : aI} (h : k_273.lookup pc = some q) : cod 273 pc = some q := (congrArg (List.lookup pc) (show mK 273 = k_273 from rfl)).trans h
theorem cod_274 {pc : Nat} {q : aI} (h : k_274.lookup pc = some q) : cod 274 pc = some q := (congrArg (List.lookup pc) (show mK 274 = k_274 from rfl)).trans h
theorem cod_275 {pc : Nat} {q : aI} (h : k_275.lookup pc = some q) : cod 275 pc = some q := (congrArg (List.lookup pc) (show mK 275 = k_275 from rfl)).trans h
theorem cod_276 {pc : Nat} {q : aI} (h : k_276.lookup pc = some q) : cod 276 pc = some q := (congrArg (List.lookup pc) (show mK 276 = k_276 from rfl)).trans h
theorem cod_277 {pc : Nat} {q : aI} (h : k_277.lookup pc = some q) : cod 277 pc = some q := (congrArg (List.lookup pc) (show mK 277 = k_277 from rfl)).trans h
theorem cod_278 {pc : Nat} {q : aI} (h : k_278.lookup pc = some q) : cod 278 pc = some q := (congrArg (List.lookup pc) (show mK 278 = k_278 from rfl)).trans h
theorem cod_279 {pc : Nat} {q : aI} (h : k_279.lookup pc = some q) : cod 279 pc = some q := (congrArg (List.lookup pc) (show mK 279 = k_279 from rfl)).trans h
theorem cod_280 {pc : Nat} {q : aI} (h : k_280.lookup pc = some q) : cod 280 pc = some q := (congrArg (List.lookup pc) (show mK 280 = k_280 from rfl)).trans h
theorem cod_281 {pc : Nat} {q : aI} (h : k_281.lookup pc = some q) : cod 281 pc = some q := (congrArg (List.lookup pc) (show mK 281 = k_281 from rfl)).trans h
theorem cod_282 {pc : Nat} {q : aI} (h : k_282.lookup pc = some q) : cod 282 pc = some q := (congrArg (List.lookup pc) (show mK 282 = k_282 from rfl)).trans h
theorem cod_283 {pc : Nat} {q : aI} (h : k_283.lookup pc = some q) : cod 283 pc = some q := (congrArg (List.lookup pc) (show mK 283 = k_283 from rfl)).trans h
theorem cod_284 {pc : Nat} {q : aI} (h : k_284.lookup pc = some q) : cod 284 pc = some q := (congrArg (List.lookup pc) (show mK 284 = k_284 from rfl)).trans h
theorem cod_285 {pc : Nat} {q : aI} (h : k_285.lookup pc = some q) : cod 285 pc = some q := (congrArg (List.lookup pc) (show mK 285 = k_285 from rfl)).trans h
theorem cod_286 {pc : Nat} {q : aI} (h : k_286.lookup pc = some q) : cod 286 pc = some q := (congrArg (List.lookup pc) (show mK 286 = k_286 from rfl)).trans h
