/-! THE LAYOUT: both worlds as their constructors make them. -/
def SHX : Sh := [(0, 10), (0, 6), (0, 7), (1, 402), (1, 402), (4, 402), (4, 26), (2, 2000), (4, 23), (4, 8), (4, 60), (0, 8), (1, 7), (1, 7), (1, 4), (1, 4), (1, 4), (1, 4), (1, 4), (4, 16), (0, 4), (1, 400), (1, 13), (1, 16), (0, 4), (1, 400), (1, 13), (1, 16), (0, 4), (1, 400), (1, 13), (1, 16), (0, 8), (1, 7), (1, 7), (1, 4), (1, 4), (1, 4), (1, 4), (1, 4), (4, 16), (0, 4), (1, 400), (1, 13), (1, 16), (0, 4), (1, 400), (1, 13), (1, 16), (0, 4), (1, 400), (1, 13), (1, 16), (0, 1), (1, 4), (1, 4), (1, 4), (1, 9), (0, 3), (1, 9), (1, 4), (0, 1), (1, 4), (1, 4), (1, 4), (1, 9), (0, 2), (5, 40), (0, 1), (1, 4), (1, 4), (1, 4), (1, 9), (0, 1), (1, 4), (1, 4), (1, 4), (1, 9), (0, 1), (1, 4), (1, 4), (1, 4), (1, 9), (0, 1), (1, 4), (1, 4), (1, 4), (1, 9), (0, 1), (1, 4), (1, 4), (1, 4), (1, 9), (0, 1), (1, 4), (1, 4), (1, 4), (1, 9), (0, 1), (1, 4), (1, 4), (1, 4), (1, 9), (0, 1), (1, 4), (1, 4), (1, 4), (1, 9), (0, 1), (1, 4), (1, 4), (1, 4), (1, 9), (0, 1), (1, 4), (1, 4), (1, 4), (1, 9), (0, 1), (1, 4), (1, 4), (1, 4), (1, 9), (0, 1), (1, 4), (1, 4), (1, 4), (1, 9), (0, 1), (1, 4), (1, 4), (1, 4), (1, 9), (0, 1), (1, 4), (1, 4), (1, 4), (1, 9), (0, 1), (1, 4), (1, 4), (1, 4), (1, 9), (0, 1), (1, 4), (1, 4), (1, 4), (1, 9), (0, 1), (1, 4), (1, 4), (1, 4), (1, 9), (0, 1), (1, 4), (1, 4), (1, 4), (1, 9), (0, 1), (1, 4), (1, 4), (1, 4), (1, 9), (0, 1), (1, 4), (1, 4), (1, 4), (1, 9), (0, 1), (1, 4), (1, 4), (1, 4), (1, 9), (0, 1), (1, 4), (1, 4), (1, 4), (1, 9), (0, 1), (1, 4), (1, 4), (1, 4), (1, 9), (0, 1), (1, 4), (1, 4), (1, 4), (1, 9), (0, 1), (1, 4), (1, 4), (1, 4), (1, 9), (0, 1), (1, 4), (1, 4), (1, 4), (1, 9), (0, 1), (1, 4), (1, 4), (1, 4), (1, 9), (0, 1), (1, 4), (1, 4), (1, 4), (1, 9), (0, 1), (1, 4), (1, 4), (1, 4), (1, 9), (0, 1), (1, 4), (1, 4), (1, 4), (1, 9), (0, 1), (1, 4), (1, 4), (1, 4), (1, 9), (0, 1), (1, 4), (1, 4), (1, 4), (1, 9), (0, 1), (1, 4), (1, 4), (1, 4), (1, 9), (0, 1), (1, 4), (1, 4), (1, 4), (1, 9), (0, 1), (1, 4), (1, 4), (1, 4), (1, 9), (0, 1), (1, 4), (1, 4), (1, 4), (1, 9), (0, 1), (1, 4), (1, 4), (1, 4), (1, 9), (0, 1), (1, 4), (1, 4), (1, 4), (1, 9), (0, 1), (1, 4), (1, 4), (1, 4), (1, 9), (0, 1), (1, 4), (1, 4), (1, 4), (1, 9), (5, 3), (0, 1), (1, 4), (1, 4), (1, 4), (1, 9), (0, 1), (1, 4), (1, 4), (1, 4), (1, 9), (0, 1), (1, 4), (1, 4), (1, 4), (1, 9), (0, 9), (1, 20), (3, 20), (0, 5), (1, 4), (1, 4), (0, 1), (1, 4), (1, 4), (1, 4), (1, 9), (1, 4), (1, 4), (3, 35), (1, 7), (1, 640), (0, 0), (1, 35)]
def SHM : Sh := [(0, 11), (2, 2000), (2, 2000), (1, 403), (1, 403), (1, 403), (4, 403), (4, 26), (4, 23), (1, 23), (1, 2), (1, 2), (1, 14), (1, 14), (1, 2), (1, 8), (1, 8), (1, 8), (1, 2), (1, 8), (1, 8), (1, 8), (1, 8), (1, 840), (1, 2), (1, 2), (1, 6), (1, 6), (3, 260), (1, 260), (1, 260), (1, 260), (1, 260), (1, 840), (1, 840), (1, 80), (1, 64), (1, 9), (1, 400), (1, 26), (1, 26), (3, 60), (1, 4), (1, 1040), (1, 35), (1, 4), (1, 4), (1, 4), (1, 4), (1, 20), (3, 20), (3, 3), (1, 78)]
def RLX : List ((Nat × Nat) × Nat) := [((0, 0), 1), ((0, 2), 32), ((0, 3), 53), ((0, 4), 58), ((0, 5), 66), ((0, 6), 268), ((0, 8), 284), ((0, 9), 287), ((0, 10), 300), ((1, 0), 2), ((1, 9), 11), ((1, 10), 20), ((1, 11), 8), ((1, 13), 9), ((1, 14), 10), ((2, 1), 3), ((2, 2), 4), ((2, 3), 5), ((2, 4), 6), ((2, 5), 7), ((11, 6), 12), ((11, 7), 13), ((11, 8), 14), ((11, 9), 15), ((11, 10), 16), ((11, 11), 17), ((11, 12), 18), ((11, 13), 19), ((11, 14), 20), ((11, 15), 24), ((11, 16), 28), ((20, 0), 21), ((20, 2), 22), ((20, 4), 23), ((24, 0), 25), ((24, 2), 26), ((24, 4), 27), ((28, 0), 29), ((28, 2), 30), ((28, 4), 31), ((32, 6), 33), ((32, 7), 34), ((32, 8), 35), ((32, 9), 36), ((32, 10), 37), ((32, 11), 38), ((32, 12), 39), ((32, 13), 40), ((32, 14), 41), ((32, 15), 45), ((32, 16), 49), ((41, 0), 42), ((41, 2), 43), ((41, 4), 44), ((45, 0), 46), ((45, 2), 47), ((45, 4), 48), ((49, 0), 50), ((49, 2), 51), ((49, 4), 52), ((53, 0), 54), ((53, 1), 55), ((53, 2), 56), ((53, 3), 57), ((58, 0), 59), ((58, 1), 60), ((58, 2), 61), ((61, 0), 62), ((61, 1), 63), ((61, 2), 64), ((61, 3), 65), ((66, 2), 67), ((67, 0), 68), ((67, 1), 73), ((67, 2), 78), ((67, 3), 83), ((67, 4), 88), ((67, 5), 93), ((67, 6), 98), ((67, 7), 103), ((67, 8), 108), ((67, 9), 113), ((67, 10), 118), ((67, 11), 123), ((67, 12), 128), ((67, 13), 133), ((67, 14), 138), ((67, 15), 143), ((67, 16), 148), ((67, 17), 153), ((67, 18), 158), ((67, 19), 163), ((67, 20), 168), ((67, 21), 173), ((67, 22), 178), ((67, 23), 183), ((67, 24), 188), ((67, 25), 193), ((67, 26), 198), ((67, 27), 203), ((67, 28), 208), ((67, 29), 213), ((67, 30), 218), ((67, 31), 223), ((67, 32), 228), ((67, 33), 233), ((67, 34), 238), ((67, 35), 243), ((67, 36), 248), ((67, 37), 253), ((67, 38), 258), ((67, 39), 263), ((68, 0), 69), ((68, 1), 70), ((68, 2), 71), ((68, 3), 72), ((73, 0), 74), ((73, 1), 75), ((73, 2), 76), ((73, 3), 77), ((78, 0), 79), ((78, 1), 80), ((78, 2), 81), ((78, 3), 82), ((83, 0), 84), ((83, 1), 85), ((83, 2), 86), ((83, 3), 87), ((88, 0), 89), ((88, 1), 90), ((88, 2), 91), ((88, 3), 92), ((93, 0), 94), ((93, 1), 95), ((93, 2), 96), ((93, 3), 97), ((98, 0), 99), ((98, 1), 100), ((98, 2), 101), ((98, 3), 102), ((103, 0), 104), ((103, 1), 105), ((103, 2), 106), ((103, 3), 107), ((108, 0), 109), ((108, 1), 110), ((108, 2), 111), ((108, 3), 112), ((113, 0), 114), ((113, 1), 115), ((113, 2), 116), ((113, 3), 117), ((118, 0), 119), ((118, 1), 120), ((118, 2), 121), ((118, 3), 122), ((123, 0), 124), ((123, 1), 125), ((123, 2), 126), ((123, 3), 127), ((128, 0), 129), ((128, 1), 130), ((128, 2), 131), ((128, 3), 132), ((133, 0), 134), ((133, 1), 135), ((133, 2), 136), ((133, 3), 137), ((138, 0), 139), ((138, 1), 140), ((138, 2), 141), ((138, 3), 142), ((143, 0), 144), ((143, 1), 145), ((143, 2), 146), ((143, 3), 147), ((148, 0), 149), ((148, 1), 150), ((148, 2), 151), ((148, 3), 152), ((153, 0), 154), ((153, 1), 155), ((153, 2), 156), ((153, 3), 157), ((158, 0), 159), ((158, 1), 160), ((158, 2), 161), ((158, 3), 162), ((163, 0), 164), ((163, 1), 165), ((163, 2), 166), ((163, 3), 167), ((168, 0), 169), ((168, 1), 170), ((168, 2), 171), ((168, 3), 172), ((173, 0), 174), ((173, 1), 175), ((173, 2), 176), ((173, 3), 177), ((178, 0), 179), ((178, 1), 180), ((178, 2), 181), ((178, 3), 182), ((183, 0), 184), ((183, 1), 185), ((183, 2), 186), ((183, 3), 187), ((188, 0), 189), ((188, 1), 190), ((188, 2), 191), ((188, 3), 192), ((193, 0), 194), ((193, 1), 195), ((193, 2), 196), ((193, 3), 197), ((198, 0), 199), ((198, 1), 200), ((198, 2), 201), ((198, 3), 202), ((203, 0), 204), ((203, 1), 205), ((203, 2), 206), ((203, 3), 207), ((208, 0), 209), ((208, 1), 210), ((208, 2), 211), ((208, 3), 212), ((213, 0), 214), ((213, 1), 215), ((213, 2), 216), ((213, 3), 217), ((218, 0), 219), ((218, 1), 220), ((218, 2), 221), ((218, 3), 222), ((223, 0), 224), ((223, 1), 225), ((223, 2), 226), ((223, 3), 227), ((228, 0), 229), ((228, 1), 230), ((228, 2), 231), ((228, 3), 232), ((233, 0), 234), ((233, 1), 235), ((233, 2), 236), ((233, 3), 237), ((238, 0), 239), ((238, 1), 240), ((238, 2), 241), ((238, 3), 242), ((243, 0), 244), ((243, 1), 245), ((243, 2), 246), ((243, 3), 247), ((248, 0), 249), ((248, 1), 250), ((248, 2), 251), ((248, 3), 252), ((253, 0), 254), ((253, 1), 255), ((253, 2), 256), ((253, 3), 257), ((258, 0), 259), ((258, 1), 260), ((258, 2), 261), ((258, 3), 262), ((263, 0), 264), ((263, 1), 265), ((263, 2), 266), ((263, 3), 267), ((268, 0), 269), ((268, 1), 274), ((268, 2), 279), ((269, 0), 270), ((269, 1), 271), ((269, 2), 272), ((269, 3), 273), ((274, 0), 275), ((274, 1), 276), ((274, 2), 277), ((274, 3), 278), ((279, 0), 280), ((279, 1), 281), ((279, 2), 282), ((279, 3), 283), ((284, 1), 285), ((284, 2), 286), ((287, 4), 288), ((287, 5), 289), ((287, 6), 290), ((287, 7), 295), ((287, 8), 296), ((287, 9), 297), ((287, 10), 298), ((287, 11), 299), ((290, 0), 291), ((290, 1), 292), ((290, 2), 293), ((290, 3), 294), ((300, 1), 301)]
def RLM : List ((Nat × Nat) × Nat) := [((0, 1), 1), ((0, 3), 2), ((0, 5), 3), ((0, 6), 4), ((0, 7), 5), ((0, 8), 6), ((0, 9), 7), ((0, 21), 8), ((0, 22), 9), ((0, 23), 10), ((0, 24), 11), ((0, 25), 12), ((0, 26), 13), ((0, 27), 14), ((0, 28), 15), ((0, 29), 16), ((0, 30), 17), ((0, 31), 18), ((0, 32), 19), ((0, 33), 20), ((0, 34), 21), ((0, 35), 22), ((0, 37), 23), ((0, 38), 24), ((0, 39), 25), ((0, 40), 26), ((0, 41), 27), ((0, 43), 28), ((0, 44), 29), ((0, 45), 30), ((0, 46), 31), ((0, 47), 32), ((0, 49), 33), ((0, 50), 34), ((0, 51), 35), ((0, 53), 36), ((0, 55), 37), ((0, 56), 38), ((0, 58), 39), ((0, 59), 40), ((0, 62), 41), ((0, 63), 42), ((0, 65), 43), ((0, 66), 44), ((0, 68), 45), ((0, 70), 46), ((0, 71), 47), ((0, 72), 48), ((0, 75), 49), ((0, 76), 50), ((0, 77), 51), ((0, 78), 52)]
def RL2 : List ((Nat × Nat) × Nat) := [((0, 0), 1), ((0, 3), 53), ((0, 4), 58), ((0, 5), 66), ((0, 6), 268), ((0, 8), 284), ((0, 9), 287), ((0, 10), 300), ((1, 0), 2), ((1, 11), 8), ((1, 13), 9), ((1, 14), 10), ((2, 1), 3), ((2, 2), 4), ((2, 3), 5), ((2, 4), 6), ((2, 5), 7), ((11, 6), 12), ((11, 7), 13), ((11, 8), 14), ((11, 9), 15), ((11, 10), 16), ((11, 11), 17), ((11, 12), 18), ((11, 13), 19), ((11, 14), 20), ((11, 15), 24), ((11, 16), 28), ((20, 0), 21), ((20, 2), 22), ((20, 4), 23), ((24, 0), 25), ((24, 2), 26), ((24, 4), 27), ((28, 0), 29), ((28, 2), 30), ((28, 4), 31), ((32, 6), 33), ((32, 7), 34), ((32, 8), 35), ((32, 9), 36), ((32, 10), 37), ((32, 11), 38), ((32, 12), 39), ((32, 13), 40), ((32, 14), 41), ((32, 15), 45), ((32, 16), 49), ((41, 0), 42), ((41, 2), 43), ((41, 4), 44), ((45, 0), 46), ((45, 2), 47), ((45, 4), 48), ((49, 0), 50), ((49, 2), 51), ((49, 4), 52), ((53, 0), 54), ((53, 1), 55), ((53, 2), 56), ((53, 3), 57), ((58, 0), 59), ((58, 1), 60), ((58, 2), 61), ((61, 0), 62), ((61, 1), 63), ((61, 2), 64), ((61, 3), 65), ((66, 2), 67), ((67, 0), 68), ((67, 1), 73), ((67, 2), 78), ((67, 3), 83), ((67, 4), 88), ((67, 5), 93), ((67, 6), 98), ((67, 7), 103), ((67, 8), 108), ((67, 9), 113), ((67, 10), 118), ((67, 11), 123), ((67, 12), 128), ((67, 13), 133), ((67, 14), 138), ((67, 15), 143), ((67, 16), 148), ((67, 17), 153), ((67, 18), 158), ((67, 19), 163), ((67, 20), 168), ((67, 21), 173), ((67, 22), 178), ((67, 23), 183), ((67, 24), 188), ((67, 25), 193), ((67, 26), 198), ((67, 27), 203), ((67, 28), 208), ((67, 29), 213), ((67, 30), 218), ((67, 31), 223), ((67, 32), 228), ((67, 33), 233), ((67, 34), 238), ((67, 35), 243), ((67, 36), 248), ((67, 37), 253), ((67, 38), 258), ((67, 39), 263), ((68, 0), 69), ((68, 1), 70), ((68, 2), 71), ((68, 3), 72), ((73, 0), 74), ((73, 1), 75), ((73, 2), 76), ((73, 3), 77), ((78, 0), 79), ((78, 1), 80), ((78, 2), 81), ((78, 3), 82), ((83, 0), 84), ((83, 1), 85), ((83, 2), 86), ((83, 3), 87), ((88, 0), 89), ((88, 1), 90), ((88, 2), 91), ((88, 3), 92), ((93, 0), 94), ((93, 1), 95), ((93, 2), 96), ((93, 3), 97), ((98, 0), 99), ((98, 1), 100), ((98, 2), 101), ((98, 3), 102), ((103, 0), 104), ((103, 1), 105), ((103, 2), 106), ((103, 3), 107), ((108, 0), 109), ((108, 1), 110), ((108, 2), 111), ((108, 3), 112), ((113, 0), 114), ((113, 1), 115), ((113, 2), 116), ((113, 3), 117), ((118, 0), 119), ((118, 1), 120), ((118, 2), 121), ((118, 3), 122), ((123, 0), 124), ((123, 1), 125), ((123, 2), 126), ((123, 3), 127), ((128, 0), 129), ((128, 1), 130), ((128, 2), 131), ((128, 3), 132), ((133, 0), 134), ((133, 1), 135), ((133, 2), 136), ((133, 3), 137), ((138, 0), 139), ((138, 1), 140), ((138, 2), 141), ((138, 3), 142), ((143, 0), 144), ((143, 1), 145), ((143, 2), 146), ((143, 3), 147), ((148, 0), 149), ((148, 1), 150), ((148, 2), 151), ((148, 3), 152), ((153, 0), 154), ((153, 1), 155), ((153, 2), 156), ((153, 3), 157), ((158, 0), 159), ((158, 1), 160), ((158, 2), 161), ((158, 3), 162), ((163, 0), 164), ((163, 1), 165), ((163, 2), 166), ((163, 3), 167), ((168, 0), 169), ((168, 1), 170), ((168, 2), 171), ((168, 3), 172), ((173, 0), 174), ((173, 1), 175), ((173, 2), 176), ((173, 3), 177), ((178, 0), 179), ((178, 1), 180), ((178, 2), 181), ((178, 3), 182), ((183, 0), 184), ((183, 1), 185), ((183, 2), 186), ((183, 3), 187), ((188, 0), 189), ((188, 1), 190), ((188, 2), 191), ((188, 3), 192), ((193, 0), 194), ((193, 1), 195), ((193, 2), 196), ((193, 3), 197), ((198, 0), 199), ((198, 1), 200), ((198, 2), 201), ((198, 3), 202), ((203, 0), 204), ((203, 1), 205), ((203, 2), 206), ((203, 3), 207), ((208, 0), 209), ((208, 1), 210), ((208, 2), 211), ((208, 3), 212), ((213, 0), 214), ((213, 1), 215), ((213, 2), 216), ((213, 3), 217), ((218, 0), 219), ((218, 1), 220), ((218, 2), 221), ((218, 3), 222), ((223, 0), 224), ((223, 1), 225), ((223, 2), 226), ((223, 3), 227), ((228, 0), 229), ((228, 1), 230), ((228, 2), 231), ((228, 3), 232), ((233, 0), 234), ((233, 1), 235), ((233, 2), 236), ((233, 3), 237), ((238, 0), 239), ((238, 1), 240), ((238, 2), 241), ((238, 3), 242), ((243, 0), 244), ((243, 1), 245), ((243, 2), 246), ((243, 3), 247), ((248, 0), 249), ((248, 1), 250), ((248, 2), 251), ((248, 3), 252), ((253, 0), 254), ((253, 1), 255), ((253, 2), 256), ((253, 3), 257), ((258, 0), 259), ((258, 1), 260), ((258, 2), 261), ((258, 3), 262), ((263, 0), 264), ((263, 1), 265), ((263, 2), 266), ((263, 3), 267), ((268, 0), 269), ((268, 1), 274), ((268, 2), 279), ((269, 0), 270), ((269, 1), 271), ((269, 2), 272), ((269, 3), 273), ((274, 0), 275), ((274, 1), 276), ((274, 2), 277), ((274, 3), 278), ((279, 0), 280), ((279, 1), 281), ((279, 2), 282), ((279, 3), 283), ((284, 1), 285), ((284, 2), 286), ((287, 4), 288), ((287, 5), 289), ((287, 6), 290), ((287, 7), 295), ((287, 8), 296), ((287, 9), 297), ((287, 10), 298), ((287, 11), 299), ((290, 0), 291), ((290, 1), 292), ((290, 2), 293), ((290, 3), 294), ((300, 1), 301)]
/-- the class's references: Text t is the live one -/
def LX (t : Nat) (G : Hp) : Prop := (t = 11 ∨ t = 32) ∧ G.2.2 0 2 = some t ∧ G.2.2 1 9 = some (43 - t) ∧ ∀ e ∈ RL2, G.2.2 e.1.1 e.1.2 = some e.2
def LM (G : Hp) : Prop := ∀ e ∈ RLM, G.2.2 e.1.1 e.1.2 = some e.2
theorem LX.same {t : Nat} {G G2 : Hp} (h : LX t G) (e : G2.2.2 = G.2.2) : LX t G2 := by unfold LX; rw [e]; exact h
theorem LM.same {G G2 : Hp} (h : LM G) (e : G2.2.2 = G.2.2) : LM G2 := by unfold LM; rw [e]; exact h
theorem ldO_of {sh : Sh} {G : Hp} {q k ci a : Nat} (h1 : G.2.2 q k = some a) (h2 : sh[a]? = some (0, ci)) : ldO sh G q k ci = some a := by simp [ldO, h1, h2]
theorem ldA_of {sh : Sh} {G : Hp} {q k t n a : Nat} (h1 : G.2.2 q k = some a) (h2 : sh[a]? = some (t, n)) : ldA sh G q k t = some a := by simp [ldA, h1, h2]
theorem aI_n {sh : Sh} {G : Hp} {q j : Nat} (h : j < ln sh q) (hb : j < 2 ^ 31) : aI sh G q (nI j) = some (G.1 q j) := by
  unfold aI; rw [nI_clamp hb, if_pos ⟨nI_pos hb, h⟩]
theorem aJ_n {sh : Sh} {G : Hp} {q j : Nat} (h : j < ln sh q) (hb : j < 2 ^ 31) : aJ sh G q (nI j) = some (G.2.1 q j) := by
  unfold aJ; rw [nI_clamp hb, if_pos ⟨nI_pos hb, h⟩]
theorem asI_n {sh : Sh} {G : Hp} {q j : Nat} {x : Int32} (h : j < ln sh q) (hb : j < 2 ^ 31) : asI sh G q (nI j) x = some (sI G q j x) := by
  unfold asI; rw [nI_clamp hb, if_pos ⟨nI_pos hb, h⟩]
theorem asJ_n {sh : Sh} {G : Hp} {q j : Nat} {x : Int64} (h : j < ln sh q) (hb : j < 2 ^ 31) : asJ sh G q (nI j) x = some (sJ G q j x) := by
  unfold asJ; rw [nI_clamp hb, if_pos ⟨nI_pos hb, h⟩]
theorem aR_n {sh : Sh} {G : Hp} {q j ci : Nat} (h : j < ln sh q) (hb : j < 2 ^ 31) : aR sh G q (nI j) ci = ldO sh G q j ci := by
  unfold aR; rw [nI_clamp hb, if_pos ⟨nI_pos hb, h⟩]
theorem sI_1 {G : Hp} {q k q2 : Nat} {v : Int32} : (sI G q k v).1 q2 = if q2 = q then upd (G.1 q) k v else G.1 q2 := rfl
theorem sI_same {G : Hp} {q k : Nat} {v : Int32} : (sI G q k v).1 q k = v := by simp [sI, rI, upd]
theorem sI_ne {G : Hp} {q k q2 k2 : Nat} {v : Int32} (h : q2 ≠ q ∨ k2 ≠ k) : (sI G q k v).1 q2 k2 = G.1 q2 k2 := by
  unfold sI rI upd
  rcases h with h | h
  · simp [h]
  · by_cases hq : q2 = q
    · subst hq; simp [h]
    · simp [hq]
theorem rI_same {G : Hp} {q : Nat} {f : Nat → Int32} : (rI G q f).1 q = f := by simp [rI]
theorem rI_ne {G : Hp} {q q2 : Nat} {f : Nat → Int32} (h : q2 ≠ q) : (rI G q f).1 q2 = G.1 q2 := by simp [rI, h]
theorem sJ_same {G : Hp} {q k : Nat} {v : Int64} : (sJ G q k v).2.1 q k = v := by simp [sJ, rJ, vp_updL]
theorem sJ_ne {G : Hp} {q k q2 k2 : Nat} {v : Int64} (h : q2 ≠ q ∨ k2 ≠ k) : (sJ G q k v).2.1 q2 k2 = G.2.1 q2 k2 := by
  unfold sJ rJ vp_updL
  rcases h with h | h
  · simp [h]
  · by_cases hq : q2 = q
    · subst hq; simp [h]
    · simp [hq]
theorem xl_0_0 {t : Nat} {G : Hp} (h : LX t G) : ldO SHX G 0 0 6 = some 1 := ldO_of (h.2.2.2 ((0, 0), 1) (by decide +kernel)) (by decide +kernel)
theorem xl_0_3 {t : Nat} {G : Hp} (h : LX t G) : ldO SHX G 0 3 1 = some 53 := ldO_of (h.2.2.2 ((0, 3), 53) (by decide +kernel)) (by decide +kernel)
theorem xl_0_4 {t : Nat} {G : Hp} (h : LX t G) : ldO SHX G 0 4 3 = some 58 := ldO_of (h.2.2.2 ((0, 4), 58) (by decide +kernel)) (by decide +kernel)
theorem xl_0_5 {t : Nat} {G : Hp} (h : LX t G) : ldO SHX G 0 5 2 = some 66 := ldO_of (h.2.2.2 ((0, 5), 66) (by decide +kernel)) (by decide +kernel)
theorem xl_0_6 {t : Nat} {G : Hp} (h : LX t G) : ldA SHX G 0 6 5 = some 268 := ldA_of (h.2.2.2 ((0, 6), 268) (by decide +kernel)) (n := 3) (by decide +kernel)
theorem xl_0_8 {t : Nat} {G : Hp} (h : LX t G) : ldO SHX G 0 8 9 = some 284 := ldO_of (h.2.2.2 ((0, 8), 284) (by decide +kernel)) (by decide +kernel)
theorem xl_0_9 {t : Nat} {G : Hp} (h : LX t G) : ldO SHX G 0 9 5 = some 287 := ldO_of (h.2.2.2 ((0, 9), 287) (by decide +kernel)) (by decide +kernel)
theorem xl_0_10 {t : Nat} {G : Hp} (h : LX t G) : ldO SHX G 0 10 0 = some 300 := ldO_of (h.2.2.2 ((0, 10), 300) (by decide +kernel)) (by decide +kernel)
theorem xl_1_0 {t : Nat} {G : Hp} (h : LX t G) : ldO SHX G 1 0 7 = some 2 := ldO_of (h.2.2.2 ((1, 0), 2) (by decide +kernel)) (by decide +kernel)
theorem xl_1_11 {t : Nat} {G : Hp} (h : LX t G) : ldA SHX G 1 11 4 = some 8 := ldA_of (h.2.2.2 ((1, 11), 8) (by decide +kernel)) (n := 23) (by decide +kernel)
theorem xl_1_13 {t : Nat} {G : Hp} (h : LX t G) : ldA SHX G 1 13 4 = some 9 := ldA_of (h.2.2.2 ((1, 13), 9) (by decide +kernel)) (n := 8) (by decide +kernel)
theorem xl_1_14 {t : Nat} {G : Hp} (h : LX t G) : ldA SHX G 1 14 4 = some 10 := ldA_of (h.2.2.2 ((1, 14), 10) (by decide +kernel)) (n := 60) (by decide +kernel)
theorem xl_2_1 {t : Nat} {G : Hp} (h : LX t G) : ldA SHX G 2 1 1 = some 3 := ldA_of (h.2.2.2 ((2, 1), 3) (by decide +kernel)) (n := 402) (by decide +kernel)
theorem xl_2_2 {t : Nat} {G : Hp} (h : LX t G) : ldA SHX G 2 2 1 = some 4 := ldA_of (h.2.2.2 ((2, 2), 4) (by decide +kernel)) (n := 402) (by decide +kernel)
theorem xl_2_3 {t : Nat} {G : Hp} (h : LX t G) : ldA SHX G 2 3 4 = some 5 := ldA_of (h.2.2.2 ((2, 3), 5) (by decide +kernel)) (n := 402) (by decide +kernel)
theorem xl_2_4 {t : Nat} {G : Hp} (h : LX t G) : ldA SHX G 2 4 4 = some 6 := ldA_of (h.2.2.2 ((2, 4), 6) (by decide +kernel)) (n := 26) (by decide +kernel)
theorem xl_2_5 {t : Nat} {G : Hp} (h : LX t G) : ldA SHX G 2 5 2 = some 7 := ldA_of (h.2.2.2 ((2, 5), 7) (by decide +kernel)) (n := 2000) (by decide +kernel)
theorem xl_58_0 {t : Nat} {G : Hp} (h : LX t G) : ldA SHX G 58 0 1 = some 59 := ldA_of (h.2.2.2 ((58, 0), 59) (by decide +kernel)) (n := 9) (by decide +kernel)
theorem xl_58_1 {t : Nat} {G : Hp} (h : LX t G) : ldA SHX G 58 1 1 = some 60 := ldA_of (h.2.2.2 ((58, 1), 60) (by decide +kernel)) (n := 4) (by decide +kernel)
theorem xl_58_2 {t : Nat} {G : Hp} (h : LX t G) : ldO SHX G 58 2 1 = some 61 := ldO_of (h.2.2.2 ((58, 2), 61) (by decide +kernel)) (by decide +kernel)
theorem xl_66_2 {t : Nat} {G : Hp} (h : LX t G) : ldA SHX G 66 2 5 = some 67 := ldA_of (h.2.2.2 ((66, 2), 67) (by decide +kernel)) (n := 40) (by decide +kernel)
theorem xl_284_1 {t : Nat} {G : Hp} (h : LX t G) : ldA SHX G 284 1 1 = some 285 := ldA_of (h.2.2.2 ((284, 1), 285) (by decide +kernel)) (n := 20) (by decide +kernel)
theorem xl_284_2 {t : Nat} {G : Hp} (h : LX t G) : ldA SHX G 284 2 3 = some 286 := ldA_of (h.2.2.2 ((284, 2), 286) (by decide +kernel)) (n := 20) (by decide +kernel)
theorem xl_287_4 {t : Nat} {G : Hp} (h : LX t G) : ldA SHX G 287 4 1 = some 288 := ldA_of (h.2.2.2 ((287, 4), 288) (by decide +kernel)) (n := 4) (by decide +kernel)
theorem xl_287_5 {t : Nat} {G : Hp} (h : LX t G) : ldA SHX G 287 5 1 = some 289 := ldA_of (h.2.2.2 ((287, 5), 289) (by decide +kernel)) (n := 4) (by decide +kernel)
theorem xl_287_6 {t : Nat} {G : Hp} (h : LX t G) : ldO SHX G 287 6 1 = some 290 := ldO_of (h.2.2.2 ((287, 6), 290) (by decide +kernel)) (by decide +kernel)
theorem xl_287_7 {t : Nat} {G : Hp} (h : LX t G) : ldA SHX G 287 7 1 = some 295 := ldA_of (h.2.2.2 ((287, 7), 295) (by decide +kernel)) (n := 4) (by decide +kernel)
theorem xl_287_8 {t : Nat} {G : Hp} (h : LX t G) : ldA SHX G 287 8 1 = some 296 := ldA_of (h.2.2.2 ((287, 8), 296) (by decide +kernel)) (n := 4) (by decide +kernel)
theorem xl_287_9 {t : Nat} {G : Hp} (h : LX t G) : ldA SHX G 287 9 3 = some 297 := ldA_of (h.2.2.2 ((287, 9), 297) (by decide +kernel)) (n := 35) (by decide +kernel)
theorem xl_287_10 {t : Nat} {G : Hp} (h : LX t G) : ldA SHX G 287 10 1 = some 298 := ldA_of (h.2.2.2 ((287, 10), 298) (by decide +kernel)) (n := 7) (by decide +kernel)
theorem xl_287_11 {t : Nat} {G : Hp} (h : LX t G) : ldA SHX G 287 11 1 = some 299 := ldA_of (h.2.2.2 ((287, 11), 299) (by decide +kernel)) (n := 640) (by decide +kernel)
theorem xl_300_1 {t : Nat} {G : Hp} (h : LX t G) : ldA SHX G 300 1 1 = some 301 := ldA_of (h.2.2.2 ((300, 1), 301) (by decide +kernel)) (n := 35) (by decide +kernel)
theorem xl_text {t : Nat} {G : Hp} (h : LX t G) : ldO SHX G 0 2 8 = some t := ldO_of h.2.1 (by rcases h.1 with rfl | rfl <;> decide +kernel)
theorem xl_rtext {t : Nat} {G : Hp} (h : LX t G) : ldO SHX G 1 9 8 = some (43 - t) := ldO_of h.2.2.1 (by rcases h.1 with rfl | rfl <;> decide +kernel)
theorem xt_6 {t u : Nat} {G : Hp} (hu : u = 11 ∨ u = 32) (h : LX t G) : ldA SHX G u 6 1 = some (u + 1) := by rcases hu with rfl | rfl <;> exact ldA_of (h.2.2.2 ((_, 6), _) (by decide +kernel)) (n := 7) (by decide +kernel)
theorem xn_6 {u : Nat} (hu : u = 11 ∨ u = 32) : ln SHX (u + 1) = 7 := by rcases hu with rfl | rfl <;> decide +kernel
theorem xt_7 {t u : Nat} {G : Hp} (hu : u = 11 ∨ u = 32) (h : LX t G) : ldA SHX G u 7 1 = some (u + 2) := by rcases hu with rfl | rfl <;> exact ldA_of (h.2.2.2 ((_, 7), _) (by decide +kernel)) (n := 7) (by decide +kernel)
theorem xn_7 {u : Nat} (hu : u = 11 ∨ u = 32) : ln SHX (u + 2) = 7 := by rcases hu with rfl | rfl <;> decide +kernel
theorem xt_8 {t u : Nat} {G : Hp} (hu : u = 11 ∨ u = 32) (h : LX t G) : ldA SHX G u 8 1 = some (u + 3) := by rcases hu with rfl | rfl <;> exact ldA_of (h.2.2.2 ((_, 8), _) (by decide +kernel)) (n := 4) (by decide +kernel)
theorem xn_8 {u : Nat} (hu : u = 11 ∨ u = 32) : ln SHX (u + 3) = 4 := by rcases hu with rfl | rfl <;> decide +kernel
theorem xt_9 {t u : Nat} {G : Hp} (hu : u = 11 ∨ u = 32) (h : LX t G) : ldA SHX G u 9 1 = some (u + 4) := by rcases hu with rfl | rfl <;> exact ldA_of (h.2.2.2 ((_, 9), _) (by decide +kernel)) (n := 4) (by decide +kernel)
theorem xn_9 {u : Nat} (hu : u = 11 ∨ u = 32) : ln SHX (u + 4) = 4 := by rcases hu with rfl | rfl <;> decide +kernel
theorem xt_10 {t u : Nat} {G : Hp} (hu : u = 11 ∨ u = 32) (h : LX t G) : ldA SHX G u 10 1 = some (u + 5) := by rcases hu with rfl | rfl <;> exact ldA_of (h.2.2.2 ((_, 10), _) (by decide +kernel)) (n := 4) (by decide +kernel)
theorem xn_10 {u : Nat} (hu : u = 11 ∨ u = 32) : ln SHX (u + 5) = 4 := by rcases hu with rfl | rfl <;> decide +kernel
theorem xt_11 {t u : Nat} {G : Hp} (hu : u = 11 ∨ u = 32) (h : LX t G) : ldA SHX G u 11 1 = some (u + 6) := by rcases hu with rfl | rfl <;> exact ldA_of (h.2.2.2 ((_, 11), _) (by decide +kernel)) (n := 4) (by decide +kernel)
theorem xn_11 {u : Nat} (hu : u = 11 ∨ u = 32) : ln SHX (u + 6) = 4 := by rcases hu with rfl | rfl <;> decide +kernel
theorem xt_12 {t u : Nat} {G : Hp} (hu : u = 11 ∨ u = 32) (h : LX t G) : ldA SHX G u 12 1 = some (u + 7) := by rcases hu with rfl | rfl <;> exact ldA_of (h.2.2.2 ((_, 12), _) (by decide +kernel)) (n := 4) (by decide +kernel)
theorem xn_12 {u : Nat} (hu : u = 11 ∨ u = 32) : ln SHX (u + 7) = 4 := by rcases hu with rfl | rfl <;> decide +kernel
theorem xt_13 {t u : Nat} {G : Hp} (hu : u = 11 ∨ u = 32) (h : LX t G) : ldA SHX G u 13 4 = some (u + 8) := by rcases hu with rfl | rfl <;> exact ldA_of (h.2.2.2 ((_, 13), _) (by decide +kernel)) (n := 16) (by decide +kernel)
theorem xn_13 {u : Nat} (hu : u = 11 ∨ u = 32) : ln SHX (u + 8) = 16 := by rcases hu with rfl | rfl <;> decide +kernel
theorem xt_14 {t u : Nat} {G : Hp} (hu : u = 11 ∨ u = 32) (h : LX t G) : ldO SHX G u 14 4 = some (u + 9) := by rcases hu with rfl | rfl <;> exact ldO_of (h.2.2.2 ((_, 14), _) (by decide +kernel)) (by decide +kernel)
theorem xt_15 {t u : Nat} {G : Hp} (hu : u = 11 ∨ u = 32) (h : LX t G) : ldO SHX G u 15 4 = some (u + 13) := by rcases hu with rfl | rfl <;> exact ldO_of (h.2.2.2 ((_, 15), _) (by decide +kernel)) (by decide +kernel)
theorem xt_16 {t u : Nat} {G : Hp} (hu : u = 11 ∨ u = 32) (h : LX t G) : ldO SHX G u 16 4 = some (u + 17) := by rcases hu with rfl | rfl <;> exact ldO_of (h.2.2.2 ((_, 16), _) (by decide +kernel)) (by decide +kernel)
def isL (w : Nat) : Prop := w = 20 ∨ w = 24 ∨ w = 28 ∨ w = 41 ∨ w = 45 ∨ w = 49
theorem xw_0 {t w : Nat} {G : Hp} (hw : isL w) (h : LX t G) : ldA SHX G w 0 1 = some (w + 1) := by rcases hw with rfl | rfl | rfl | rfl | rfl | rfl <;> exact ldA_of (h.2.2.2 ((_, 0), _) (by decide +kernel)) (n := 400) (by decide +kernel)
theorem xwn_0 {w : Nat} (hw : isL w) : ln SHX (w + 1) = 400 := by rcases hw with rfl | rfl | rfl | rfl | rfl | rfl <;> decide +kernel
theorem xw_2 {t w : Nat} {G : Hp} (hw : isL w) (h : LX t G) : ldA SHX G w 2 1 = some (w + 2) := by rcases hw with rfl | rfl | rfl | rfl | rfl | rfl <;> exact ldA_of (h.2.2.2 ((_, 2), _) (by decide +kernel)) (n := 13) (by decide +kernel)
theorem xwn_2 {w : Nat} (hw : isL w) : ln SHX (w + 2) = 13 := by rcases hw with rfl | rfl | rfl | rfl | rfl | rfl <;> decide +kernel
theorem xw_4 {t w : Nat} {G : Hp} (hw : isL w) (h : LX t G) : ldA SHX G w 4 1 = some (w + 3) := by rcases hw with rfl | rfl | rfl | rfl | rfl | rfl <;> exact ldA_of (h.2.2.2 ((_, 4), _) (by decide +kernel)) (n := 16) (by decide +kernel)
theorem xwn_4 {w : Nat} (hw : isL w) : ln SHX (w + 3) = 16 := by rcases hw with rfl | rfl | rfl | rfl | rfl | rfl <;> decide +kernel
def isG (g : Nat) : Prop := g = 53 ∨ g = 61 ∨ g = 269 ∨ g = 274 ∨ g = 279 ∨ g = 290 ∨ ∃ i, i < 40 ∧ g = 68 + 5 * i
theorem kg_0 : ∀ i, i < 40 → ((68 + 5 * i, 0), 68 + 5 * i + 1) ∈ RL2 ∧ SHX[68 + 5 * i + 1]? = some (1, 4) := by decide +kernel
theorem xg_0 {t g : Nat} {G : Hp} (hg : isG g) (h : LX t G) : ldA SHX G g 0 1 = some (g + 1) := by
  rcases hg with rfl | rfl | rfl | rfl | rfl | rfl | ⟨i, hi, rfl⟩
  all_goals first | exact ldA_of (h.2.2.2 _ (kg_0 i hi).1) (kg_0 i hi).2 | exact ldA_of (h.2.2.2 ((_, 0), _) (by decide +kernel)) (n := 4) (by decide +kernel)
theorem xgn_0 {g : Nat} (hg : isG g) : ln SHX (g + 1) = 4 := by
  rcases hg with rfl | rfl | rfl | rfl | rfl | rfl | ⟨i, hi, rfl⟩
  all_goals first | exact ln_of (kg_0 i hi).2 | decide +kernel
theorem kg_1 : ∀ i, i < 40 → ((68 + 5 * i, 1), 68 + 5 * i + 2) ∈ RL2 ∧ SHX[68 + 5 * i + 2]? = some (1, 4) := by decide +kernel
theorem xg_1 {t g : Nat} {G : Hp} (hg : isG g) (h : LX t G) : ldA SHX G g 1 1 = some (g + 2) := by
  rcases hg with rfl | rfl | rfl | rfl | rfl | rfl | ⟨i, hi, rfl⟩
  all_goals first | exact ldA_of (h.2.2.2 _ (kg_1 i hi).1) (kg_1 i hi).2 | exact ldA_of (h.2.2.2 ((_, 1), _) (by decide +kernel)) (n := 4) (by decide +kernel)
theorem xgn_1 {g : Nat} (hg : isG g) : ln SHX (g + 2) = 4 := by
  rcases hg with rfl | rfl | rfl | rfl | rfl | rfl | ⟨i, hi, rfl⟩
  all_goals first | exact ln_of (kg_1 i hi).2 | decide +kernel
theorem kg_2 : ∀ i, i < 40 → ((68 + 5 * i, 2), 68 + 5 * i + 3) ∈ RL2 ∧ SHX[68 + 5 * i + 3]? = some (1, 4) := by decide +kernel
theorem xg_2 {t g : Nat} {G : Hp} (hg : isG g) (h : LX t G) : ldA SHX G g 2 1 = some (g + 3) := by
  rcases hg with rfl | rfl | rfl | rfl | rfl | rfl | ⟨i, hi, rfl⟩
  all_goals first | exact ldA_of (h.2.2.2 _ (kg_2 i hi).1) (kg_2 i hi).2 | exact ldA_of (h.2.2.2 ((_, 2), _) (by decide +kernel)) (n := 4) (by decide +kernel)
theorem xgn_2 {g : Nat} (hg : isG g) : ln SHX (g + 3) = 4 := by
  rcases hg with rfl | rfl | rfl | rfl | rfl | rfl | ⟨i, hi, rfl⟩
  all_goals first | exact ln_of (kg_2 i hi).2 | decide +kernel
theorem kg_3 : ∀ i, i < 40 → ((68 + 5 * i, 3), 68 + 5 * i + 4) ∈ RL2 ∧ SHX[68 + 5 * i + 4]? = some (1, 9) := by decide +kernel
theorem xg_3 {t g : Nat} {G : Hp} (hg : isG g) (h : LX t G) : ldA SHX G g 3 1 = some (g + 4) := by
  rcases hg with rfl | rfl | rfl | rfl | rfl | rfl | ⟨i, hi, rfl⟩
  all_goals first | exact ldA_of (h.2.2.2 _ (kg_3 i hi).1) (kg_3 i hi).2 | exact ldA_of (h.2.2.2 ((_, 3), _) (by decide +kernel)) (n := 9) (by decide +kernel)
theorem xgn_3 {g : Nat} (hg : isG g) : ln SHX (g + 4) = 9 := by
  rcases hg with rfl | rfl | rfl | rfl | rfl | rfl | ⟨i, hi, rfl⟩
  all_goals first | exact ln_of (kg_3 i hi).2 | decide +kernel
theorem kg_k : ∀ i, i < 40 → ((67, i), 68 + 5 * i) ∈ RL2 ∧ SHX[68 + 5 * i]? = some (0, 1) := by decide +kernel
theorem xl_67 {t i : Nat} {G : Hp} (hi : i < 40) (h : LX t G) : ldO SHX G 67 i 1 = some (68 + 5 * i) := ldO_of (h.2.2.2 _ (kg_k i hi).1) (kg_k i hi).2
theorem ks_k : ∀ i, i < 3 → ((268, i), 269 + 5 * i) ∈ RL2 ∧ SHX[269 + 5 * i]? = some (0, 1) := by decide +kernel
theorem xl_268 {t i : Nat} {G : Hp} (hi : i < 3) (h : LX t G) : ldO SHX G 268 i 1 = some (269 + 5 * i) := ldO_of (h.2.2.2 _ (ks_k i hi).1) (ks_k i hi).2
theorem ml_1 {G : Hp} (h : LM G) : ldA SHM G 0 1 2 = some 1 := ldA_of (h ((0, 1), 1) (by decide +kernel)) (n := 2000) (by decide +kernel)
theorem mn_1 : ln SHM 1 = 2000 := by decide +kernel
theorem ml_3 {G : Hp} (h : LM G) : ldA SHM G 0 3 2 = some 2 := ldA_of (h ((0, 3), 2) (by decide +kernel)) (n := 2000) (by decide +kernel)
theorem mn_2 : ln SHM 2 = 2000 := by decide +kernel
theorem ml_5 {G : Hp} (h : LM G) : ldA SHM G 0 5 1 = some 3 := ldA_of (h ((0, 5), 3) (by decide +kernel)) (n := 403) (by decide +kernel)
theorem mn_3 : ln SHM 3 = 403 := by decide +kernel
theorem ml_6 {G : Hp} (h : LM G) : ldA SHM G 0 6 1 = some 4 := ldA_of (h ((0, 6), 4) (by decide +kernel)) (n := 403) (by decide +kernel)
theorem mn_4 : ln SHM 4 = 403 := by decide +kernel
theorem ml_7 {G : Hp} (h : LM G) : ldA SHM G 0 7 1 = some 5 := ldA_of (h ((0, 7), 5) (by decide +kernel)) (n := 403) (by decide +kernel)
theorem mn_5 : ln SHM 5 = 403 := by decide +kernel
theorem ml_8 {G : Hp} (h : LM G) : ldA SHM G 0 8 4 = some 6 := ldA_of (h ((0, 8), 6) (by decide +kernel)) (n := 403) (by decide +kernel)
theorem mn_6 : ln SHM 6 = 403 := by decide +kernel
theorem ml_9 {G : Hp} (h : LM G) : ldA SHM G 0 9 4 = some 7 := ldA_of (h ((0, 9), 7) (by decide +kernel)) (n := 26) (by decide +kernel)
theorem mn_7 : ln SHM 7 = 26 := by decide +kernel
theorem ml_21 {G : Hp} (h : LM G) : ldA SHM G 0 21 4 = some 8 := ldA_of (h ((0, 21), 8) (by decide +kernel)) (n := 23) (by decide +kernel)
theorem mn_8 : ln SHM 8 = 23 := by decide +kernel
theorem ml_22 {G : Hp} (h : LM G) : ldA SHM G 0 22 1 = some 9 := ldA_of (h ((0, 22), 9) (by decide +kernel)) (n := 23) (by decide +kernel)
theorem mn_9 : ln SHM 9 = 23 := by decide +kernel
theorem ml_23 {G : Hp} (h : LM G) : ldA SHM G 0 23 1 = some 10 := ldA_of (h ((0, 23), 10) (by decide +kernel)) (n := 2) (by decide +kernel)
theorem mn_10 : ln SHM 10 = 2 := by decide +kernel
theorem ml_24 {G : Hp} (h : LM G) : ldA SHM G 0 24 1 = some 11 := ldA_of (h ((0, 24), 11) (by decide +kernel)) (n := 2) (by decide +kernel)
theorem mn_11 : ln SHM 11 = 2 := by decide +kernel
theorem ml_25 {G : Hp} (h : LM G) : ldA SHM G 0 25 1 = some 12 := ldA_of (h ((0, 25), 12) (by decide +kernel)) (n := 14) (by decide +kernel)
theorem mn_12 : ln SHM 12 = 14 := by decide +kernel
theorem ml_26 {G : Hp} (h : LM G) : ldA SHM G 0 26 1 = some 13 := ldA_of (h ((0, 26), 13) (by decide +kernel)) (n := 14) (by decide +kernel)
theorem mn_13 : ln SHM 13 = 14 := by decide +kernel
theorem ml_27 {G : Hp} (h : LM G) : ldA SHM G 0 27 1 = some 14 := ldA_of (h ((0, 27), 14) (by decide +kernel)) (n := 2) (by decide +kernel)
theorem mn_14 : ln SHM 14 = 2 := by decide +kernel
theorem ml_28 {G : Hp} (h : LM G) : ldA SHM G 0 28 1 = some 15 := ldA_of (h ((0, 28), 15) (by decide +kernel)) (n := 8) (by decide +kernel)
theorem mn_15 : ln SHM 15 = 8 := by decide +kernel
theorem ml_29 {G : Hp} (h : LM G) : ldA SHM G 0 29 1 = some 16 := ldA_of (h ((0, 29), 16) (by decide +kernel)) (n := 8) (by decide +kernel)
theorem mn_16 : ln SHM 16 = 8 := by decide +kernel
theorem ml_30 {G : Hp} (h : LM G) : ldA SHM G 0 30 1 = some 17 := ldA_of (h ((0, 30), 17) (by decide +kernel)) (n := 8) (by decide +kernel)
theorem mn_17 : ln SHM 17 = 8 := by decide +kernel
theorem ml_31 {G : Hp} (h : LM G) : ldA SHM G 0 31 1 = some 18 := ldA_of (h ((0, 31), 18) (by decide +kernel)) (n := 2) (by decide +kernel)
theorem mn_18 : ln SHM 18 = 2 := by decide +kernel
theorem ml_32 {G : Hp} (h : LM G) : ldA SHM G 0 32 1 = some 19 := ldA_of (h ((0, 32), 19) (by decide +kernel)) (n := 8) (by decide +kernel)
theorem mn_19 : ln SHM 19 = 8 := by decide +kernel
theorem ml_33 {G : Hp} (h : LM G) : ldA SHM G 0 33 1 = some 20 := ldA_of (h ((0, 33), 20) (by decide +kernel)) (n := 8) (by decide +kernel)
theorem mn_20 : ln SHM 20 = 8 := by decide +kernel
theorem ml_34 {G : Hp} (h : LM G) : ldA SHM G 0 34 1 = some 21 := ldA_of (h ((0, 34), 21) (by decide +kernel)) (n := 8) (by decide +kernel)
theorem mn_21 : ln SHM 21 = 8 := by decide +kernel
theorem ml_35 {G : Hp} (h : LM G) : ldA SHM G 0 35 1 = some 22 := ldA_of (h ((0, 35), 22) (by decide +kernel)) (n := 8) (by decide +kernel)
theorem mn_22 : ln SHM 22 = 8 := by decide +kernel
theorem ml_37 {G : Hp} (h : LM G) : ldA SHM G 0 37 1 = some 23 := ldA_of (h ((0, 37), 23) (by decide +kernel)) (n := 840) (by decide +kernel)
theorem mn_23 : ln SHM 23 = 840 := by decide +kernel
theorem ml_38 {G : Hp} (h : LM G) : ldA SHM G 0 38 1 = some 24 := ldA_of (h ((0, 38), 24) (by decide +kernel)) (n := 2) (by decide +kernel)
theorem mn_24 : ln SHM 24 = 2 := by decide +kernel
theorem ml_39 {G : Hp} (h : LM G) : ldA SHM G 0 39 1 = some 25 := ldA_of (h ((0, 39), 25) (by decide +kernel)) (n := 2) (by decide +kernel)
theorem mn_25 : ln SHM 25 = 2 := by decide +kernel
theorem ml_40 {G : Hp} (h : LM G) : ldA SHM G 0 40 1 = some 26 := ldA_of (h ((0, 40), 26) (by decide +kernel)) (n := 6) (by decide +kernel)
theorem mn_26 : ln SHM 26 = 6 := by decide +kernel
theorem ml_41 {G : Hp} (h : LM G) : ldA SHM G 0 41 1 = some 27 := ldA_of (h ((0, 41), 27) (by decide +kernel)) (n := 6) (by decide +kernel)
theorem mn_27 : ln SHM 27 = 6 := by decide +kernel
theorem ml_43 {G : Hp} (h : LM G) : ldA SHM G 0 43 3 = some 28 := ldA_of (h ((0, 43), 28) (by decide +kernel)) (n := 260) (by decide +kernel)
theorem mn_28 : ln SHM 28 = 260 := by decide +kernel
theorem ml_44 {G : Hp} (h : LM G) : ldA SHM G 0 44 1 = some 29 := ldA_of (h ((0, 44), 29) (by decide +kernel)) (n := 260) (by decide +kernel)
theorem mn_29 : ln SHM 29 = 260 := by decide +kernel
theorem ml_45 {G : Hp} (h : LM G) : ldA SHM G 0 45 1 = some 30 := ldA_of (h ((0, 45), 30) (by decide +kernel)) (n := 260) (by decide +kernel)
theorem mn_30 : ln SHM 30 = 260 := by decide +kernel
theorem ml_46 {G : Hp} (h : LM G) : ldA SHM G 0 46 1 = some 31 := ldA_of (h ((0, 46), 31) (by decide +kernel)) (n := 260) (by decide +kernel)
theorem mn_31 : ln SHM 31 = 260 := by decide +kernel
theorem ml_47 {G : Hp} (h : LM G) : ldA SHM G 0 47 1 = some 32 := ldA_of (h ((0, 47), 32) (by decide +kernel)) (n := 260) (by decide +kernel)
theorem mn_32 : ln SHM 32 = 260 := by decide +kernel
theorem ml_49 {G : Hp} (h : LM G) : ldA SHM G 0 49 1 = some 33 := ldA_of (h ((0, 49), 33) (by decide +kernel)) (n := 840) (by decide +kernel)
theorem mn_33 : ln SHM 33 = 840 := by decide +kernel
theorem ml_50 {G : Hp} (h : LM G) : ldA SHM G 0 50 1 = some 34 := ldA_of (h ((0, 50), 34) (by decide +kernel)) (n := 840) (by decide +kernel)
theorem mn_34 : ln SHM 34 = 840 := by decide +kernel
theorem ml_51 {G : Hp} (h : LM G) : ldA SHM G 0 51 1 = some 35 := ldA_of (h ((0, 51), 35) (by decide +kernel)) (n := 80) (by decide +kernel)
theorem mn_35 : ln SHM 35 = 80 := by decide +kernel
theorem ml_53 {G : Hp} (h : LM G) : ldA SHM G 0 53 1 = some 36 := ldA_of (h ((0, 53), 36) (by decide +kernel)) (n := 64) (by decide +kernel)
theorem mn_36 : ln SHM 36 = 64 := by decide +kernel
theorem ml_55 {G : Hp} (h : LM G) : ldA SHM G 0 55 1 = some 37 := ldA_of (h ((0, 55), 37) (by decide +kernel)) (n := 9) (by decide +kernel)
theorem mn_37 : ln SHM 37 = 9 := by decide +kernel
theorem ml_56 {G : Hp} (h : LM G) : ldA SHM G 0 56 1 = some 38 := ldA_of (h ((0, 56), 38) (by decide +kernel)) (n := 400) (by decide +kernel)
theorem mn_38 : ln SHM 38 = 400 := by decide +kernel
theorem ml_58 {G : Hp} (h : LM G) : ldA SHM G 0 58 1 = some 39 := ldA_of (h ((0, 58), 39) (by decide +kernel)) (n := 26) (by decide +kernel)
theorem mn_39 : ln SHM 39 = 26 := by decide +kernel
theorem ml_59 {G : Hp} (h : LM G) : ldA SHM G 0 59 1 = some 40 := ldA_of (h ((0, 59), 40) (by decide +kernel)) (n := 26) (by decide +kernel)
theorem mn_40 : ln SHM 40 = 26 := by decide +kernel
theorem ml_62 {G : Hp} (h : LM G) : ldA SHM G 0 62 3 = some 41 := ldA_of (h ((0, 62), 41) (by decide +kernel)) (n := 60) (by decide +kernel)
theorem mn_41 : ln SHM 41 = 60 := by decide +kernel
theorem ml_63 {G : Hp} (h : LM G) : ldA SHM G 0 63 1 = some 42 := ldA_of (h ((0, 63), 42) (by decide +kernel)) (n := 4) (by decide +kernel)
theorem mn_42 : ln SHM 42 = 4 := by decide +kernel
theorem ml_65 {G : Hp} (h : LM G) : ldA SHM G 0 65 1 = some 43 := ldA_of (h ((0, 65), 43) (by decide +kernel)) (n := 1040) (by decide +kernel)
theorem mn_43 : ln SHM 43 = 1040 := by decide +kernel
theorem ml_66 {G : Hp} (h : LM G) : ldA SHM G 0 66 1 = some 44 := ldA_of (h ((0, 66), 44) (by decide +kernel)) (n := 35) (by decide +kernel)
theorem mn_44 : ln SHM 44 = 35 := by decide +kernel
theorem ml_68 {G : Hp} (h : LM G) : ldA SHM G 0 68 1 = some 45 := ldA_of (h ((0, 68), 45) (by decide +kernel)) (n := 4) (by decide +kernel)
theorem mn_45 : ln SHM 45 = 4 := by decide +kernel
theorem ml_70 {G : Hp} (h : LM G) : ldA SHM G 0 70 1 = some 46 := ldA_of (h ((0, 70), 46) (by decide +kernel)) (n := 4) (by decide +kernel)
theorem mn_46 : ln SHM 46 = 4 := by decide +kernel
theorem ml_71 {G : Hp} (h : LM G) : ldA SHM G 0 71 1 = some 47 := ldA_of (h ((0, 71), 47) (by decide +kernel)) (n := 4) (by decide +kernel)
theorem mn_47 : ln SHM 47 = 4 := by decide +kernel
theorem ml_72 {G : Hp} (h : LM G) : ldA SHM G 0 72 1 = some 48 := ldA_of (h ((0, 72), 48) (by decide +kernel)) (n := 4) (by decide +kernel)
theorem mn_48 : ln SHM 48 = 4 := by decide +kernel
theorem ml_75 {G : Hp} (h : LM G) : ldA SHM G 0 75 1 = some 49 := ldA_of (h ((0, 75), 49) (by decide +kernel)) (n := 20) (by decide +kernel)
theorem mn_49 : ln SHM 49 = 20 := by decide +kernel
theorem ml_76 {G : Hp} (h : LM G) : ldA SHM G 0 76 3 = some 50 := ldA_of (h ((0, 76), 50) (by decide +kernel)) (n := 20) (by decide +kernel)
theorem mn_50 : ln SHM 50 = 20 := by decide +kernel
theorem ml_77 {G : Hp} (h : LM G) : ldA SHM G 0 77 3 = some 51 := ldA_of (h ((0, 77), 51) (by decide +kernel)) (n := 3) (by decide +kernel)
theorem mn_51 : ln SHM 51 = 3 := by decide +kernel
theorem ml_78 {G : Hp} (h : LM G) : ldA SHM G 0 78 1 = some 52 := ldA_of (h ((0, 78), 52) (by decide +kernel)) (n := 78) (by decide +kernel)
theorem mn_52 : ln SHM 52 = 78 := by decide +kernel
theorem xnn_3 : ln SHX 3 = 402 := by decide +kernel
theorem xnn_4 : ln SHX 4 = 402 := by decide +kernel
theorem xnn_5 : ln SHX 5 = 402 := by decide +kernel
theorem xnn_6 : ln SHX 6 = 26 := by decide +kernel
theorem xnn_7 : ln SHX 7 = 2000 := by decide +kernel
theorem xnn_8 : ln SHX 8 = 23 := by decide +kernel
theorem xnn_9 : ln SHX 9 = 8 := by decide +kernel
theorem xnn_10 : ln SHX 10 = 60 := by decide +kernel
theorem xnn_59 : ln SHX 59 = 9 := by decide +kernel
theorem xnn_60 : ln SHX 60 = 4 := by decide +kernel
theorem xnn_67 : ln SHX 67 = 40 := by decide +kernel
theorem xnn_268 : ln SHX 268 = 3 := by decide +kernel
theorem xnn_285 : ln SHX 285 = 20 := by decide +kernel
theorem xnn_286 : ln SHX 286 = 20 := by decide +kernel
theorem xnn_288 : ln SHX 288 = 4 := by decide +kernel
theorem xnn_289 : ln SHX 289 = 4 := by decide +kernel
theorem xnn_295 : ln SHX 295 = 4 := by decide +kernel
theorem xnn_296 : ln SHX 296 = 4 := by decide +kernel
theorem xnn_297 : ln SHX 297 = 35 := by decide +kernel
theorem xnn_298 : ln SHX 298 = 7 := by decide +kernel
theorem xnn_299 : ln SHX 299 = 640 := by decide +kernel
theorem xnn_301 : ln SHX 301 = 35 := by decide +kernel
set_option maxRecDepth 100000 in
theorem iX_ok : (fX10_init [(0, 10)] GZ 0).map (fun z => (z.1, RLX.all (fun e => z.2.2.2 e.1.1 e.1.2 == some e.2))) = some (SHX, true) := by decide +kernel
set_option maxRecDepth 100000 in
theorem iM_ok : (fX11_init [(0, 11)] GZ 0).map (fun z => (z.1, RLM.all (fun e => z.2.2.2 e.1.1 e.1.2 == some e.2))) = some (SHM, true) := by decide +kernel
