/-! Tables for the soundness of the pure machine (by program: wip/whole/facts.py). -/
def oNm : List String := ["StairWays$Climber", "StairWays$Mark", "StairWays$Mood", "StairWays$Pair", "StairWays$Rests", "StairWays$Stair", "StairWays$StairReader", "StairWays$Sweep", "StairWays$Tape", "StairWays$Throng", "StairWays$Ways", "StairWays", "StairWaysModel", "StairWaysLaw", "java/lang/Math", "java/lang/String", "java/lang/StringLatin1", "jdk/internal/util/Preconditions"]
def ownOf (k : Nat) : String := oNm.getD k ""
def cNm : List String := ["StairWays$Climber", "StairWays$Mark", "StairWays$Mood", "StairWays$Pair", "StairWays$Rests", "StairWays$Stair", "StairWays$StairReader", "StairWays$Sweep", "StairWays$Tape", "StairWays$Throng", "StairWays$Ways", "StairWays", "StairWaysModel", "java/util/NoSuchElementException"]
def cTb : List (List (String × String × String × Bool)) := [[("StairWays$Climber", "strides", "[I", true), ("StairWays$Climber", "at", "I", false), ("StairWays$Climber", "paces", "I", false), ("StairWays$Climber", "last", "I", false), ("StairWays$Climber", "creaks", "I", false), ("StairWays$Climber", "greats", "I", false)],
  [("StairWays$Mark", "climber", "LStairWays$Climber;", true), ("StairWays$Mark", "dusts", "[I", true), ("StairWays$Mark", "laid", "Z", false)],
  [("StairWays$Mood", "deeds", "[I", true), ("StairWays$Mood", "pile", "[I", true), ("StairWays$Mood", "length", "I", false)],
  [("StairWays$Pair", "met", "[J", false)],
  [("StairWays$Rests", "first", "[J", true), ("StairWays$Rests", "power", "[J", true), ("StairWays$Rests", "wide", "[J", true)],
  [("StairWays$Stair", "strides", "[I", true), ("StairWays$Stair", "places", "[I", true), ("StairWays$Stair", "kinds", "[I", true), ("StairWays$Stair", "barredBehind", "[I", true), ("StairWays$Stair", "heapOf", "[I", true), ("StairWays$Stair", "farthest", "[I", true), ("StairWays$Stair", "mood", "LStairWays$Mood;", true), ("StairWays$Stair", "top", "I", false), ("StairWays$Stair", "kindsOfStride", "I", false), ("StairWays$Stair", "strideBits", "I", false), ("StairWays$Stair", "creakLimit", "I", false), ("StairWays$Stair", "bars", "I", false), ("StairWays$Stair", "foot", "I", false), ("StairWays$Stair", "least", "I", false), ("StairWays$Stair", "most", "I", false), ("StairWays$Stair", "great", "I", false), ("StairWays$Stair", "greatLimit", "I", false)],
  [("StairWays$StairReader", "tape", "LStairWays$Tape;", true), ("StairWays$StairReader", "linesTold", "I", false), ("StairWays$StairReader", "fault", "I", false), ("StairWays$StairReader", "number", "I", false)],
  [("StairWays$Sweep", "reached", "[J", true), ("StairWays$Sweep", "ahead", "[I", true), ("StairWays$Sweep", "tried", "J", false)],
  [("StairWays$Tape", "signs", "[C", true), ("StairWays$Tape", "length", "I", false), ("StairWays$Tape", "kind", "I", false), ("StairWays$Tape", "place", "I", false), ("StairWays$Tape", "end", "I", false), ("StairWays$Tape", "value", "I", false)],
  [("StairWays$Throng", "trod", "[J", true), ("StairWays$Throng", "paces", "J", false), ("StairWays$Throng", "one", "LStairWays$Climber;", true), ("StairWays$Throng", "moods", "[I", true), ("StairWays$Throng", "weights", "[I", true), ("StairWays$Throng", "parts", "[J", true), ("StairWays$Throng", "groups", "[J", false), ("StairWays$Throng", "known", "J", false), ("StairWays$Throng", "lastKinds", "I", false), ("StairWays$Throng", "creakKinds", "I", false), ("StairWays$Throng", "greatKinds", "I", false)],
  [("StairWays$Ways", "lastKindOf", "[I", true), ("StairWays$Ways", "dusts", "[I", true), ("StairWays$Ways", "answers", "[J", false), ("StairWays$Ways", "purpose", "I", false), ("StairWays$Ways", "least", "I", false), ("StairWays$Ways", "most", "I", false), ("StairWays$Ways", "pacesMatter", "Z", false), ("StairWays$Ways", "footMatters", "Z", false), ("StairWays$Ways", "lastKinds", "I", false), ("StairWays$Ways", "creakKinds", "I", false), ("StairWays$Ways", "greatKinds", "I", false)],
  [("StairWays", "reader", "LStairWays$StairReader;", true), ("StairWays", "hand", "LStairWays$Climber;", true), ("StairWays", "ghost", "LStairWays$Climber;", true), ("StairWays", "ways", "LStairWays$Ways;", true), ("StairWays", "throng", "LStairWays$Throng;", true), ("StairWays", "sweep", "LStairWays$Sweep;", true), ("StairWays", "pair", "LStairWays$Pair;", true), ("StairWays", "rests", "LStairWays$Rests;", true), ("StairWays", "marks", "[LStairWays$Mark;", true), ("StairWays", "dusts", "[I", true), ("StairWays", "weights", "[I", true), ("StairWays", "told", "LStairWays$Stair;", false), ("StairWays", "spare", "LStairWays$Stair;", false), ("StairWays", "drawing", "J", false)],
  [("StairWaysModel", "thrown", "I", false), ("StairWaysModel", "tape", "[I", true), ("StairWaysModel", "taped", "I", false), ("StairWaysModel", "size", "I", false), ("StairWaysModel", "sort", "[I", true), ("StairWaysModel", "place", "[I", true), ("StairWaysModel", "value", "[J", true), ("StairWaysModel", "at", "I", false), ("StairWaysModel", "fault", "I", false), ("StairWaysModel", "words", "[J", true), ("StairWaysModel", "stairs", "[I", true), ("StairWaysModel", "op", "[I", true), ("StairWaysModel", "arg", "[I", true), ("StairWaysModel", "codes", "I", false), ("StairWaysModel", "told", "I", false), ("StairWaysModel", "facts", "[I", true), ("StairWaysModel", "pile", "[I", true), ("StairWaysModel", "state", "[I", true), ("StairWaysModel", "isMarked", "[Z", true), ("StairWaysModel", "now", "I", false), ("StairWaysModel", "last", "I", false), ("StairWaysModel", "creaks", "I", false), ("StairWaysModel", "greats", "I", false), ("StairWaysModel", "table", "[J", true), ("StairWaysModel", "byDust", "Z", false), ("StairWaysModel", "power", "[J", true), ("StairWaysModel", "result", "[J", true), ("StairWaysModel", "product", "[J", true), ("StairWaysModel", "copy", "[J", true), ("StairWaysModel", "treads", "[J", true), ("StairWaysModel", "takenAll", "J", false), ("StairWaysModel", "pairs", "[J", true), ("StairWaysModel", "heapOf", "[I", true), ("StairWaysModel", "leads", "[Z", true), ("StairWaysModel", "nextOf", "[I", true), ("StairWaysModel", "tried", "[Z", true), ("StairWaysModel", "g", "J", false)]]
def cTy : List (List FieldType) := [[.array .int, .int, .int, .int, .int, .int], [.object "StairWays$Climber", .array .int, .boolean], [.array .int, .array .int, .int], [.array .long], [.array .long, .array .long, .array .long], [.array .int, .array .int, .array .int, .array .int, .array .int, .array .int, .object "StairWays$Mood", .int, .int, .int, .int, .int, .int, .int, .int, .int, .int], [.object "StairWays$Tape", .int, .int, .int], [.array .long, .array .int, .long], [.array .char, .int, .int, .int, .int, .int], [.array .long, .long, .object "StairWays$Climber", .array .int, .array .int, .array .long, .array .long, .long, .int, .int, .int], [.array .int, .array .int, .array .long, .int, .int, .int, .boolean, .boolean, .int, .int, .int], [.object "StairWays$StairReader", .object "StairWays$Climber", .object "StairWays$Climber", .object "StairWays$Ways", .object "StairWays$Throng", .object "StairWays$Sweep", .object "StairWays$Pair", .object "StairWays$Rests", .array (.object "StairWays$Mark"), .array .int, .array .int, .object "StairWays$Stair", .object "StairWays$Stair", .long], [.int, .array .int, .int, .int, .array .int, .array .int, .array .long, .int, .int, .array .long, .array .int, .array .int, .array .int, .int, .int, .array .int, .array .int, .array .int, .array .boolean, .int, .int, .int, .int, .array .long, .boolean, .array .long, .array .long, .array .long, .array .long, .array .long, .long, .array .long, .array .int, .array .boolean, .array .int, .array .boolean, .long]]
def fkl : List (List Nat) := [[20, 100, 100, 100, 100, 100], [0, 20, 101], [20, 20, 100], [21], [21, 21, 21], [20, 20, 20, 20, 20, 20, 2, 100, 100, 100, 100, 100, 100, 100, 100, 100, 100], [8, 100, 100, 100], [21, 20, 102], [22, 100, 100, 100, 100, 100], [21, 102, 0, 20, 20, 21, 21, 102, 100, 100, 100], [20, 20, 21, 100, 100, 100, 101, 101, 100, 100, 100], [6, 0, 0, 10, 9, 7, 3, 4, 24, 20, 20, 5, 5, 102], [100, 20, 100, 100, 20, 20, 21, 100, 100, 21, 20, 20, 20, 100, 100, 20, 20, 20, 23, 100, 100, 100, 100, 21, 101, 21, 21, 21, 21, 21, 102, 21, 20, 23, 20, 23, 102]]
def cT (ci : Nat) : u_T := fun k => (cTb.getD ci []).getD k ("", "", "", false)
def cF (ci : Nat) : Nat := (cTb.getD ci []).length
def cY (ci k : Nat) : FieldType := (cTy.getD ci []).getD k .int
def fK (ci k : Nat) : Nat := (fkl.getD ci []).getD k 100
def cC (ci : Nat) : String := cNm.getD ci ""
def vcl : List vw_C := (List.range 14).map (fun ci => (cC ci, cT ci, cF ci))
def tyOk (c : Nat) (t : FieldType) : Bool := match t with
  | .int => c == 100
  | .boolean => c == 101
  | .long => c == 102
  | .array _ => decide (c < 25)
  | .object _ => decide (c < 13)
  | _ => false
def layP : List (Nat × Nat × Nat) := [(0, 0, 111), (0, 1, 113), (0, 2, 115), (0, 3, 117), (0, 4, 119), (0, 5, 121), (1, 0, 266), (1, 1, 268), (1, 2, 270), (2, 0, 289), (2, 1, 291), (2, 2, 293), (3, 0, 233), (4, 0, 245), (4, 1, 247), (4, 2, 249), (5, 0, 362), (5, 1, 364), (5, 2, 366), (5, 3, 368), (5, 4, 370), (5, 5, 372), (5, 6, 374), (5, 7, 376), (5, 8, 378), (5, 9, 380), (5, 10, 382), (5, 11, 384), (5, 12, 386), (5, 13, 388), (5, 14, 390), (5, 15, 392), (5, 16, 394), (6, 0, 75), (6, 1, 77), (6, 2, 79), (6, 3, 81), (7, 0, 219), (7, 1, 221), (7, 2, 223), (8, 0, 56), (8, 1, 58), (8, 2, 60), (8, 3, 62), (8, 4, 64), (8, 5, 66), (9, 0, 187), (9, 1, 189), (9, 2, 191), (9, 3, 193), (9, 4, 195), (9, 5, 197), (9, 6, 199), (9, 7, 201), (9, 8, 203), (9, 9, 205), (9, 10, 207), (10, 0, 142), (10, 1, 144), (10, 2, 146), (10, 3, 148), (10, 4, 150), (10, 5, 152), (10, 6, 154), (10, 7, 156), (10, 8, 158), (10, 9, 160), (10, 10, 162), (11, 0, 435), (11, 1, 437), (11, 2, 439), (11, 3, 441), (11, 4, 443), (11, 5, 445), (11, 6, 447), (11, 7, 449), (11, 8, 451), (11, 9, 453), (11, 10, 455), (11, 11, 457), (11, 12, 459), (11, 13, 461), (12, 0, 1257), (12, 1, 1259), (12, 2, 1261), (12, 3, 1263), (12, 4, 1265), (12, 5, 1267), (12, 6, 1269), (12, 7, 1271), (12, 8, 1273), (12, 9, 1275), (12, 10, 1277), (12, 11, 1279), (12, 12, 1281), (12, 13, 1283), (12, 14, 1285), (12, 15, 1287), (12, 16, 1289), (12, 17, 1291), (12, 18, 1293), (12, 19, 1295), (12, 20, 1297), (12, 21, 1299), (12, 22, 1301), (12, 23, 1303), (12, 24, 1305), (12, 25, 1307), (12, 26, 1309), (12, 27, 1311), (12, 28, 1313), (12, 29, 1315), (12, 30, 1317), (12, 31, 1319), (12, 32, 1321), (12, 33, 1323), (12, 34, 1325), (12, 35, 1327), (12, 36, 1329)]
def flk : List (Nat × Nat × Nat × Nat × Nat) := [(8, 9, 8, 0, 45), (11, 101, 8, 1, 46), (8, 15, 8, 1, 47), (6, 43, 8, 1, 48), (6, 37, 8, 2, 49), (8, 32, 8, 2, 50), (8, 25, 8, 3, 51), (6, 216, 8, 3, 52), (8, 19, 8, 4, 53), (6, 128, 8, 5, 54), (8, 62, 8, 5, 55), (6, 12, 6, 0, 70), (11, 91, 6, 0, 71), (6, 18, 6, 1, 72), (6, 22, 6, 2, 73), (6, 59, 6, 3, 74), (0, 9, 0, 0, 90), (11, 139, 0, 0, 91), (0, 19, 0, 1, 92), (9, 107, 0, 1, 93), (10, 47, 0, 1, 94), (11, 142, 0, 1, 95), (0, 23, 0, 2, 96), (11, 129, 0, 2, 97), (9, 127, 0, 2, 98), (10, 142, 0, 2, 99), (0, 26, 0, 3, 100), (9, 104, 0, 3, 101), (10, 139, 0, 3, 102), (0, 29, 0, 4, 103), (9, 113, 0, 4, 104), (10, 145, 0, 4, 105), (11, 273, 0, 4, 106), (0, 32, 0, 5, 107), (9, 116, 0, 5, 108), (10, 148, 0, 5, 109), (11, 276, 0, 5, 110), (10, 9, 10, 0, 131), (10, 15, 10, 1, 132), (10, 18, 10, 2, 133), (10, 22, 10, 3, 134), (10, 97, 10, 4, 135), (10, 98, 10, 5, 136), (10, 99, 10, 6, 137), (10, 106, 10, 7, 138), (10, 123, 10, 8, 139), (10, 113, 10, 9, 140), (10, 118, 10, 10, 141), (9, 9, 9, 0, 174), (11, 199, 9, 0, 175), (9, 82, 9, 1, 176), (11, 203, 9, 1, 177), (9, 18, 9, 2, 178), (9, 22, 9, 3, 179), (9, 26, 9, 4, 180), (9, 29, 9, 5, 181), (9, 32, 9, 6, 182), (9, 35, 9, 7, 183), (9, 66, 9, 8, 184), (9, 72, 9, 9, 185), (9, 77, 9, 10, 186), (7, 9, 7, 0, 216), (7, 15, 7, 1, 217), (7, 33, 7, 2, 218), (3, 9, 3, 0, 232), (4, 9, 4, 0, 242), (4, 15, 4, 1, 243), (4, 18, 4, 2, 244), (1, 12, 1, 0, 261), (11, 263, 1, 0, 262), (1, 18, 1, 1, 263), (11, 266, 1, 1, 264), (11, 259, 1, 2, 265), (2, 9, 2, 0, 285), (2, 15, 2, 1, 286), (2, 18, 2, 2, 287), (5, 37, 2, 2, 288), (5, 9, 5, 0, 296), (7, 44, 5, 0, 297), (4, 39, 5, 0, 298), (3, 34, 5, 0, 299), (9, 85, 5, 0, 300), (10, 66, 5, 0, 301), (0, 94, 5, 0, 302), (11, 301, 5, 0, 303), (5, 15, 5, 1, 304), (9, 110, 5, 1, 305), (5, 18, 5, 2, 306), (7, 47, 5, 2, 307), (11, 115, 5, 2, 308), (3, 38, 5, 2, 309), (0, 53, 5, 2, 310), (6, 144, 5, 2, 311), (5, 21, 5, 3, 312), (6, 157, 5, 3, 313), (10, 133, 5, 3, 314), (5, 24, 5, 4, 315), (11, 118, 5, 4, 316), (5, 27, 5, 5, 317), (0, 50, 5, 5, 318), (5, 33, 5, 6, 319), (6, 118, 5, 6, 320), (0, 72, 5, 6, 321), (3, 15, 5, 7, 322), (7, 19, 5, 7, 323), (5, 41, 5, 7, 324), (6, 62, 5, 7, 325), (9, 43, 5, 7, 326), (11, 112, 5, 7, 327), (0, 69, 5, 7, 328), (10, 52, 5, 7, 329), (5, 44, 5, 8, 330), (7, 41, 5, 8, 331), (4, 35, 5, 8, 332), (3, 27, 5, 8, 333), (9, 63, 5, 8, 334), (10, 63, 5, 8, 335), (0, 91, 5, 8, 336), (11, 279, 5, 8, 337), (5, 47, 5, 9, 338), (10, 136, 5, 9, 339), (5, 50, 5, 10, 340), (0, 60, 5, 10, 341), (6, 148, 5, 10, 342), (5, 53, 5, 11, 343), (6, 151, 5, 11, 344), (11, 282, 5, 11, 345), (5, 56, 5, 12, 346), (6, 162, 5, 12, 347), (10, 103, 5, 12, 348), (5, 59, 5, 13, 349), (10, 26, 5, 13, 350), (11, 149, 5, 13, 351), (6, 166, 5, 13, 352), (5, 62, 5, 14, 353), (10, 31, 5, 14, 354), (0, 47, 5, 14, 355), (6, 171, 5, 14, 356), (5, 65, 5, 15, 357), (6, 174, 5, 15, 358), (5, 68, 5, 16, 359), (0, 66, 5, 16, 360), (6, 178, 5, 16, 361), (11, 10, 11, 0, 421), (11, 19, 11, 1, 422), (11, 23, 11, 2, 423), (11, 29, 11, 3, 424), (11, 36, 11, 4, 425), (11, 43, 11, 5, 426), (11, 50, 11, 6, 427), (11, 57, 11, 7, 428), (11, 63, 11, 8, 429), (11, 68, 11, 9, 430), (11, 72, 11, 10, 431), (11, 78, 11, 11, 432), (11, 82, 11, 12, 433), (11, 239, 11, 13, 434), (12, 1, 12, 0, 1220), (12, 14, 12, 1, 1221), (12, 11, 12, 2, 1222), (12, 145, 12, 3, 1223), (12, 24, 12, 4, 1224), (12, 27, 12, 5, 1225), (12, 30, 12, 6, 1226), (12, 164, 12, 7, 1227), (12, 167, 12, 8, 1228), (12, 78, 12, 9, 1229), (12, 81, 12, 10, 1230), (12, 84, 12, 11, 1231), (12, 87, 12, 12, 1232), (12, 192, 12, 13, 1233), (12, 195, 12, 14, 1234), (12, 90, 12, 15, 1235), (12, 93, 12, 16, 1236), (12, 96, 12, 17, 1237), (12, 99, 12, 18, 1238), (12, 265, 12, 19, 1239), (12, 268, 12, 20, 1240), (12, 271, 12, 21, 1241), (12, 274, 12, 22, 1242), (12, 104, 12, 23, 1243), (12, 289, 12, 24, 1244), (12, 107, 12, 25, 1245), (12, 110, 12, 26, 1246), (12, 113, 12, 27, 1247), (12, 116, 12, 28, 1248), (12, 119, 12, 29, 1249), (12, 380, 12, 30, 1250), (12, 122, 12, 31, 1251), (12, 125, 12, 32, 1252), (12, 128, 12, 33, 1253), (12, 131, 12, 34, 1254), (12, 134, 12, 35, 1255), (12, 419, 12, 36, 1256)]
def slk : List (Nat × Nat × Nat × Nat) := [(15, 38, 2, 519), (15, 1053, 3, 562), (15, 15, 1, 1744), (15, 9, 0, 1745)]
def mlk : List (Nat × Nat × Nat × Nat × Nat) := [(13, 15, 101, 0, 27), (11, 85, 25, 0, 397), (11, 88, 26, 0, 401), (5, 71, 27, 0, 405), (5, 75, 35, 0, 409), (5, 78, 36, 0, 413), (5, 81, 37, 0, 417), (13, 21, 102, 0, 464), (11, 95, 67, 0, 468), (13, 26, 103, 0, 472), (11, 105, 39, 0, 476), (6, 25, 25, 0, 480), (6, 30, 68, 0, 481), (8, 22, 69, 0, 485), (8, 28, 73, 0, 489), (8, 35, 74, 0, 492), (8, 38, 71, 0, 495), (8, 41, 75, 0, 499), (8, 44, 72, 0, 502), (8, 49, 246, 0, 507), (15, 633, 247, 0, 511), (15, 492, 244, 0, 515), (15, 505, 242, 0, 521), (15, 335, 243, 0, 525), (15, 637, 251, 0, 529), (16, 88, 250, 0, 532), (16, 92, 240, 0, 535), (16, 38, 241, 0, 538), (16, 95, 252, 0, 541), (6, 33, 40, 0, 593), (6, 51, 58, 0, 598), (6, 71, 70, 0, 602), (8, 55, 242, 0, 606), (8, 58, 245, 0, 607), (15, 495, 249, 0, 611), (16, 9, 248, 0, 614), (15, 1059, 253, 0, 617), (6, 125, 60, 0, 627), (6, 141, 69, 0, 631), (6, 55, 57, 0, 632), (6, 134, 56, 0, 636), (6, 65, 59, 0, 640), (6, 40, 41, 0, 644), (6, 74, 55, 0, 649), (6, 78, 42, 0, 653), (6, 131, 28, 0, 657), (6, 137, 27, 0, 661), (6, 83, 43, 0, 663), (6, 93, 44, 0, 670), (6, 98, 45, 0, 675), (6, 154, 29, 0, 679), (6, 103, 46, 0, 684), (6, 108, 47, 0, 691), (6, 113, 48, 0, 697), (6, 121, 49, 0, 703), (6, 181, 50, 0, 707), (6, 193, 51, 0, 711), (6, 196, 52, 0, 715), (6, 199, 53, 0, 719), (6, 204, 54, 0, 724), (6, 190, 12, 0, 732), (6, 46, 26, 0, 738), (11, 109, 129, 0, 739), (11, 132, 1, 0, 743), (0, 15, 2, 0, 747), (11, 285, 85, 0, 751), (11, 288, 77, 0, 755), (13, 31, 104, 0, 760), (13, 35, 105, 0, 764), (11, 121, 4, 0, 768), (0, 41, 28, 0, 772), (0, 56, 29, 0, 773), (0, 63, 30, 0, 774), (13, 40, 106, 0, 778), (11, 125, 5, 0, 782), (13, 44, 107, 0, 786), (11, 135, 6, 0, 790), (13, 49, 108, 0, 794), (13, 54, 109, 0, 798), (11, 145, 31, 0, 802), (13, 58, 110, 0, 806), (11, 152, 130, 0, 810), (11, 173, 86, 0, 814), (10, 34, 95, 0, 818), (10, 109, 33, 0, 822), (10, 115, 34, 0, 826), (10, 120, 96, 0, 830), (10, 129, 28, 0, 834), (10, 44, 241, 0, 836), (10, 38, 240, 0, 837), (11, 161, 3, 0, 839), (10, 55, 98, 0, 850), (10, 151, 31, 0, 854), (10, 59, 97, 0, 855), (10, 69, 91, 0, 859), (10, 73, 99, 0, 863), (10, 89, 4, 0, 867), (10, 154, 100, 0, 868), (10, 77, 5, 0, 872), (10, 81, 90, 0, 873), (10, 85, 6, 0, 874), (13, 63, 111, 0, 875), (11, 158, 87, 0, 880), (13, 68, 112, 0, 884), (11, 169, 109, 0, 888), (11, 176, 92, 0, 889), (13, 72, 113, 0, 893), (11, 179, 131, 0, 897), (11, 289, 93, 0, 901), (13, 86, 115, 0, 905), (11, 191, 134, 0, 909), (11, 195, 78, 0, 913), (9, 39, 79, 0, 917), (9, 69, 33, 0, 921), (9, 74, 34, 0, 922), (9, 79, 240, 0, 923), (9, 49, 32, 0, 924), (9, 53, 241, 0, 928), (9, 59, 80, 0, 929), (9, 88, 2, 0, 933), (9, 92, 81, 0, 934), (9, 96, 8, 0, 938), (0, 95, 7, 0, 942), (0, 76, 13, 0, 946), (2, 22, 14, 0, 950), (2, 26, 15, 0, 953), (0, 82, 241, 0, 956), (0, 88, 240, 0, 957), (9, 100, 82, 0, 958), (9, 119, 9, 0, 962), (0, 99, 4, 0, 966), (9, 123, 83, 0, 967), (9, 129, 5, 0, 971), (13, 91, 116, 0, 972), (13, 96, 117, 0, 976), (11, 206, 7, 0, 980), (13, 100, 118, 0, 981), (11, 210, 17, 0, 985), (3, 23, 18, 0, 990), (3, 30, 19, 0, 994), (13, 104, 119, 0, 997), (11, 214, 88, 0, 1001), (10, 93, 94, 0, 1009), (13, 108, 120, 0, 1010), (13, 112, 121, 0, 1014), (13, 117, 122, 0, 1018), (11, 221, 89, 0, 1022), (13, 121, 123, 0, 1026), (11, 225, 62, 0, 1030), (7, 25, 63, 0, 1034), (7, 29, 64, 0, 1038), (7, 37, 65, 0, 1042), (13, 125, 124, 0, 1046), (11, 229, 135, 0, 1050), (11, 232, 137, 0, 1053), (13, 130, 125, 0, 1056), (11, 236, 136, 0, 1060), (11, 243, 132, 0, 1064), (13, 134, 126, 0, 1073), (11, 249, 8, 0, 1077), (11, 252, 9, 0, 1078), (11, 256, 133, 0, 1079), (13, 138, 127, 0, 1083), (13, 143, 128, 0, 1088), (13, 7, 114, 0, 1096), (11, 187, 21, 0, 1162), (4, 21, 22, 0, 1166), (4, 25, 23, 0, 1170), (4, 29, 32, 0, 1174), (13, 83, 138, 0, 1175), (13, 25, 139, 0, 1179), (12, 7, 140, 0, 1183), (13, 18, 141, 0, 1189), (12, 137, 155, 0, 1216), (13, 30, 158, 0, 1333), (12, 189, 146, 0, 1337), (12, 141, 142, 0, 1341), (12, 150, 144, 0, 1345), (12, 154, 143, 0, 1348), (12, 161, 145, 0, 1353), (12, 182, 153, 0, 1356), (12, 179, 152, 0, 1360), (12, 176, 149, 0, 1364), (12, 173, 147, 0, 1368), (12, 185, 156, 0, 1372), (12, 198, 150, 0, 1376), (12, 170, 148, 0, 1380), (12, 201, 161, 0, 1384), (12, 211, 162, 0, 1388), (12, 214, 163, 0, 1392), (12, 237, 164, 0, 1396), (12, 217, 165, 0, 1400), (12, 220, 160, 0, 1404), (12, 241, 166, 0, 1408), (12, 223, 167, 0, 1412), (12, 226, 157, 0, 1416), (12, 230, 169, 0, 1420), (12, 244, 170, 0, 1424), (12, 247, 171, 0, 1428), (12, 253, 172, 0, 1432), (12, 256, 173, 0, 1436), (12, 233, 168, 0, 1440), (12, 250, 151, 0, 1444), (12, 204, 159, 0, 1448), (12, 207, 177, 0, 1452), (13, 34, 199, 0, 1456), (12, 296, 176, 0, 1460), (12, 338, 154, 0, 1464), (12, 341, 225, 0, 1467), (12, 262, 178, 0, 1471), (12, 283, 179, 0, 1475), (13, 39, 200, 0, 1479), (12, 344, 183, 0, 1483), (12, 277, 180, 0, 1487), (12, 280, 181, 0, 1491), (12, 286, 182, 0, 1495), (12, 347, 198, 0, 1499), (12, 335, 185, 0, 1503), (12, 327, 189, 0, 1507), (12, 299, 186, 0, 1511), (12, 302, 188, 0, 1515), (12, 293, 187, 0, 1519), (13, 43, 201, 0, 1523), (12, 350, 200, 0, 1527), (13, 48, 202, 0, 1528), (13, 53, 203, 0, 1532), (13, 57, 205, 0, 1536), (12, 353, 204, 0, 1540), (13, 62, 206, 0, 1544), (12, 356, 194, 0, 1548), (12, 310, 191, 0, 1552), (12, 313, 192, 0, 1556), (12, 306, 184, 0, 1560), (12, 316, 196, 0, 1563), (12, 331, 190, 0, 1567), (12, 320, 195, 0, 1571), (12, 324, 193, 0, 1575), (12, 360, 197, 0, 1579), (13, 67, 207, 0, 1583), (13, 71, 208, 0, 1588), (13, 76, 210, 0, 1592), (12, 365, 209, 0, 1596), (13, 82, 212, 0, 1600), (12, 370, 211, 0, 1605), (12, 374, 213, 0, 1609), (13, 90, 219, 0, 1613), (12, 397, 218, 0, 1617), (12, 401, 215, 0, 1621), (12, 384, 216, 0, 1625), (12, 388, 214, 0, 1629), (12, 377, 174, 0, 1633), (12, 259, 175, 0, 1637), (12, 391, 217, 0, 1640), (13, 95, 220, 0, 1644), (13, 99, 221, 0, 1648), (13, 103, 223, 0, 1652), (12, 404, 222, 0, 1656), (13, 107, 224, 0, 1660), (13, 111, 226, 0, 1664), (13, 116, 227, 0, 1668), (13, 120, 228, 0, 1672), (13, 124, 233, 0, 1676), (12, 416, 230, 0, 1680), (12, 407, 229, 0, 1684), (12, 410, 231, 0, 1688), (12, 413, 232, 0, 1692), (13, 129, 234, 0, 1696), (13, 133, 236, 0, 1700), (12, 431, 235, 0, 1705), (13, 137, 237, 0, 1714), (13, 142, 238, 0, 1718), (13, 146, 239, 0, 1722), (11, 9, 38, 1, 35), (6, 11, 66, 1, 41), (11, 18, 0, 1, 86), (11, 28, 84, 1, 127), (11, 35, 76, 1, 168), (9, 17, 0, 1, 173), (11, 42, 61, 1, 212), (11, 49, 16, 1, 228), (11, 56, 20, 1, 238), (11, 67, 10, 1, 255), (1, 11, 0, 1, 260), (11, 77, 24, 1, 275), (5, 32, 11, 1, 281), (11, 165, 90, 1, 846), (11, 217, 94, 1, 1005)]
def olk : List (Nat × Nat × Nat) := [(11, 1, 30), (6, 3, 38), (8, 3, 44), (0, 3, 89), (10, 3, 130), (9, 3, 171), (7, 3, 215), (3, 3, 231), (4, 3, 241), (1, 3, 258), (5, 3, 278), (2, 3, 284), (12, 18, 1192)]
def alk : List (Nat × Nat × Nat) := [(0, 35, 843), (11, 267, 1087)]
def clk : List (Nat × Nat × Nat × Nat) := [(13, 8, 11, 25), (11, 7, 6, 33), (6, 9, 8, 39), (11, 16, 0, 84), (11, 26, 10, 125), (11, 33, 9, 166), (9, 15, 0, 172), (11, 40, 7, 210), (11, 47, 3, 226), (11, 54, 4, 236), (11, 61, 1, 252), (1, 9, 0, 259), (11, 75, 5, 273), (5, 30, 2, 279), (13, 16, 12, 1188)]
def cst : List (Nat × Nat × Int32 × Nat) := [(10, 126, 143500, 835), (11, 242, 32768, 1063), (11, 183, 999999999, 1100), (12, 103, 294175, 1215), (12, 369, 999999999, 1604), (12, 430, 32768, 1704)]
def cstl : List (Nat × Nat × Int64 × Nat) := [(10, 127, -1, 838), (11, 156, -1, 879), (11, 302, 1000000000000, 912), (3, 21, -1, 989), (11, 293, 1103515245, 1068), (11, 295, 12345, 1069), (11, 297, 2147483647, 1070), (11, 299, 65536, 1071), (11, 247, 32768, 1072), (12, 34, 36623839, 1193), (12, 36, 50169877366, 1194), (12, 38, 173197865, 1195), (12, 40, 6541130, 1196), (12, 42, 242021829, 1197), (12, 44, 30884514577, 1198), (12, 46, 2793, 1199), (12, 48, 325028, 1200), (12, 50, 614923, 1201), (12, 52, 34200674, 1202), (12, 54, 6411565, 1203), (12, 56, 755, 1204), (12, 58, 14037783, 1205), (12, 60, 37957098, 1206), (12, 62, 679583, 1207), (12, 64, 19741, 1208), (12, 66, 1891, 1209), (12, 68, 573, 1210), (12, 70, 1355942631, 1211), (12, 72, 609928, 1212), (12, 74, 989988, 1213), (12, 76, 37549131, 1214), (12, 148, 37, 1344), (12, 157, 10, 1351), (12, 159, 48, 1352), (12, 363, -1, 1587), (12, 395, 1000000000000, 1620), (12, 422, 1103515245, 1709), (12, 424, 12345, 1710), (12, 426, 2147483648, 1711), (12, 428, 65536, 1712), (12, 434, 32768, 1713), (13, 19, 4294967295, 1726)]
def srf : List (Nat × Nat × Nat × Nat) := [(8, 47, 0, 506), (6, 49, 1, 597), (6, 69, 2, 648), (6, 81, 3, 662), (6, 87, 4, 667), (6, 89, 5, 668), (6, 91, 6, 669), (6, 96, 7, 674), (6, 101, 8, 683), (6, 160, 9, 688), (6, 164, 10, 689), (6, 106, 11, 690), (6, 169, 12, 695), (6, 111, 13, 696), (6, 176, 14, 701), (6, 116, 15, 702), (6, 202, 16, 723), (6, 208, 17, 728), (6, 210, 18, 729), (6, 212, 19, 730), (6, 214, 20, 731), (6, 184, 21, 736), (6, 186, 22, 737)]
def stx : List String := ["()<=+-*;", "stair", "strides", "broken", "creak", "landing", "creaks", "bar", "foot", "left", "right", "count", "to", "great", "times", "mood", "not", "stride", "last", "step", "taken", "and", "or"]
def inP : List (Nat × Nat) := [(0, 4), (1, 10), (2, 12), (3, 8), (4, 9), (5, 11), (6, 2), (7, 7), (8, 3), (9, 6), (10, 5), (11, 1), (12, 13), (13, 0), (14, 16), (15, 14), (16, 15), (17, 18)]
def nwP : List (Nat × Nat) := [(0, 85), (1, 254), (2, 280), (3, 227), (4, 237), (5, 274), (6, 34), (7, 211), (8, 40), (9, 167), (10, 126), (11, 26), (12, 1186)]
def mtb : List (Nat × String × String × ByteArray × Nat × Option FieldType × Nat) := [(0, "<init>", "()V", prog_2_method_1_code, 1, none, 0),
  (0, "start", "()V", prog_2_method_2_code, 1, none, 0),
  (0, "put", "(IIIII)V", prog_2_method_3_code, 6, none, 5),
  (0, "follow", "(LStairWays$Climber;)V", prog_2_method_4_code, 2, none, 1),
  (0, "can", "(LStairWays$Stair;I)Z", prog_2_method_5_code, 4, (some .boolean), 2),
  (0, "go", "(LStairWays$Stair;I)V", prog_2_method_6_code, 3, none, 2),
  (0, "undo", "(LStairWays$Stair;)V", prog_2_method_7_code, 2, none, 1),
  (0, "moodOf", "(LStairWays$Stair;I)I", prog_2_method_8_code, 4, (some .int), 2),
  (0, "feelMoods", "(LStairWays$Stair;[I)V", prog_2_method_9_code, 4, none, 2),
  (0, "keepPossible", "(LStairWays$Stair;[I[I)I", prog_2_method_10_code, 6, (some .int), 3),
  (1, "<init>", "()V", prog_3_method_1_code, 1, none, 0),
  (2, "<init>", "()V", prog_4_method_1_code, 1, none, 0),
  (2, "add", "(I)V", prog_4_method_2_code, 2, none, 1),
  (2, "of", "(IIII)I", prog_4_method_3_code, 8, (some .int), 4),
  (2, "fact", "(IIIII)I", prog_4_method_4_code, 5, (some .int), 5),
  (2, "joined", "(III)I", prog_4_method_5_code, 3, (some .int), 3),
  (3, "<init>", "()V", prog_5_method_1_code, 1, none, 0),
  (3, "pairs", "(LStairWays$Stair;)J", prog_5_method_2_code, 4, (some .long), 1),
  (3, "beat", "(LStairWays$Stair;II)V", prog_5_method_3_code, 10, none, 3),
  (3, "moved", "(LStairWays$Stair;III)I", prog_5_method_4_code, 5, (some .int), 4),
  (4, "<init>", "()V", prog_6_method_1_code, 1, none, 0),
  (4, "rest", "(LStairWays$Stair;II)I", prog_6_method_2_code, 7, (some .int), 3),
  (4, "findFirst", "(LStairWays$Stair;I)V", prog_6_method_3_code, 6, none, 2),
  (4, "square", "(LStairWays$Stair;II)V", prog_6_method_4_code, 9, none, 3),
  (5, "<init>", "()V", prog_7_method_1_code, 1, none, 0),
  (5, "clear", "()V", prog_7_method_2_code, 2, none, 0),
  (5, "finish", "()V", prog_7_method_3_code, 2, none, 0),
  (5, "addStride", "(I)V", prog_7_method_4_code, 3, none, 1),
  (5, "tells", "(I)Z", prog_7_method_5_code, 2, (some .boolean), 1),
  (5, "isBarred", "(II)Z", prog_7_method_6_code, 3, (some .boolean), 2),
  (5, "isGreat", "(I)Z", prog_7_method_7_code, 2, (some .boolean), 1),
  (5, "footFits", "(I)Z", prog_7_method_8_code, 2, (some .boolean), 1),
  (5, "longest", "()I", prog_7_method_9_code, 1, (some .int), 0),
  (5, "creakKinds", "()I", prog_7_method_10_code, 1, (some .int), 0),
  (5, "greatKinds", "()I", prog_7_method_11_code, 1, (some .int), 0),
  (5, "findFarthest", "()V", prog_7_method_12_code, 3, none, 0),
  (5, "findHeaps", "()V", prog_7_method_13_code, 2, none, 0),
  (5, "leastHeap", "(I)I", prog_7_method_14_code, 5, (some .int), 1),
  (6, "<init>", "()V", prog_8_method_1_code, 1, none, 0),
  (6, "read", "(LStairWays$Stair;)I", prog_8_method_2_code, 4, (some .int), 1),
  (6, "readFirst", "(LStairWays$Stair;)Z", prog_8_method_3_code, 2, (some .boolean), 1),
  (6, "readLine", "(LStairWays$Stair;)Z", prog_8_method_4_code, 2, (some .boolean), 1),
  (6, "readStrides", "(LStairWays$Stair;)Z", prog_8_method_5_code, 3, (some .boolean), 1),
  (6, "readStep", "(LStairWays$Stair;I)Z", prog_8_method_6_code, 4, (some .boolean), 2),
  (6, "readCreaks", "(LStairWays$Stair;)Z", prog_8_method_7_code, 2, (some .boolean), 1),
  (6, "readBar", "(LStairWays$Stair;)Z", prog_8_method_8_code, 3, (some .boolean), 1),
  (6, "readFoot", "(LStairWays$Stair;)Z", prog_8_method_9_code, 2, (some .boolean), 1),
  (6, "readCount", "(LStairWays$Stair;)Z", prog_8_method_10_code, 2, (some .boolean), 1),
  (6, "readGreat", "(LStairWays$Stair;)Z", prog_8_method_11_code, 2, (some .boolean), 1),
  (6, "readEither", "(LStairWays$Mood;I)Z", prog_8_method_12_code, 5, (some .boolean), 2),
  (6, "readTest", "(LStairWays$Mood;I)Z", prog_8_method_13_code, 4, (some .boolean), 2),
  (6, "readSum", "(LStairWays$Mood;I)Z", prog_8_method_14_code, 5, (some .boolean), 2),
  (6, "readProduct", "(LStairWays$Mood;I)Z", prog_8_method_15_code, 4, (some .boolean), 2),
  (6, "readPart", "(LStairWays$Mood;I)Z", prog_8_method_16_code, 6, (some .boolean), 2),
  (6, "namedFact", "()I", prog_8_method_17_code, 1, (some .int), 0),
  (6, "isFirst", "(I)Z", prog_8_method_18_code, 2, (some .boolean), 1),
  (6, "isNumber", "(II)Z", prog_8_method_19_code, 3, (some .boolean), 2),
  (6, "takeNumber", "(II)Z", prog_8_method_20_code, 3, (some .boolean), 2),
  (6, "takeWord", "(Ljava/lang/String;)Z", prog_8_method_21_code, 2, (some .boolean), 1),
  (6, "takeSign", "(C)Z", prog_8_method_22_code, 2, (some .boolean), 1),
  (6, "fail", "(I)Z", prog_8_method_23_code, 2, (some .boolean), 1),
  (7, "<init>", "()V", prog_9_method_1_code, 1, none, 0),
  (7, "fewestClimbers", "(LStairWays$Stair;[I)I", prog_9_method_2_code, 5, (some .int), 2),
  (7, "findReached", "(LStairWays$Stair;[I)V", prog_9_method_3_code, 6, none, 2),
  (7, "leads", "(II)Z", prog_9_method_4_code, 3, (some .boolean), 2),
  (7, "joins", "(LStairWays$Stair;[III)Z", prog_9_method_5_code, 6, (some .boolean), 4),
  (8, "<init>", "()V", prog_10_method_1_code, 1, none, 0),
  (8, "put", "(J)V", prog_10_method_2_code, 6, none, 1),
  (8, "rewind", "()V", prog_10_method_3_code, 1, none, 0),
  (8, "advance", "()V", prog_10_method_4_code, 2, none, 0),
  (8, "isWord", "(Ljava/lang/String;)Z", prog_10_method_5_code, 3, (some .boolean), 1),
  (8, "readWord", "()V", prog_10_method_6_code, 1, none, 0),
  (8, "readNumber", "()V", prog_10_method_7_code, 1, none, 0),
  (8, "isBlank", "(C)Z", prog_10_method_8_code, 1, (some .boolean), 1),
  (8, "isLetter", "(C)Z", prog_10_method_9_code, 1, (some .boolean), 1),
  (8, "isDigit", "(C)Z", prog_10_method_10_code, 1, (some .boolean), 1),
  (9, "<init>", "()V", prog_11_method_1_code, 1, none, 0),
  (9, "forget", "()V", prog_11_method_2_code, 1, none, 0),
  (9, "goUp", "(LStairWays$Stair;J)V", prog_11_method_3_code, 7, none, 2),
  (9, "begin", "(LStairWays$Stair;)V", prog_11_method_4_code, 4, none, 1),
  (9, "passStep", "(LStairWays$Stair;II)V", prog_11_method_5_code, 12, none, 3),
  (9, "placeOf", "(LStairWays$Stair;LStairWays$Climber;)I", prog_11_method_6_code, 4, (some .int), 2),
  (9, "part", "(LStairWays$Stair;J)V", prog_11_method_7_code, 9, none, 2),
  (9, "send", "(LStairWays$Stair;IJ)V", prog_11_method_8_code, 11, none, 3),
  (10, "<init>", "()V", prog_12_method_1_code, 1, none, 0),
  (10, "forget", "()V", prog_12_method_2_code, 1, none, 0),
  (10, "beginAll", "(LStairWays$Stair;)V", prog_12_method_3_code, 2, none, 1),
  (10, "beginExactly", "(LStairWays$Stair;I)V", prog_12_method_4_code, 3, none, 2),
  (10, "beginGame", "(LStairWays$Stair;)V", prog_12_method_5_code, 2, none, 1),
  (10, "beginDusty", "(LStairWays$Stair;[I)V", prog_12_method_6_code, 4, none, 2),
  (10, "from", "(LStairWays$Stair;LStairWays$Climber;I)J", prog_12_method_7_code, 8, (some .long), 3),
  (10, "behind", "(LStairWays$Stair;LStairWays$Climber;II)J", prog_12_method_8_code, 7, (some .long), 4),
  (10, "ahead", "(LStairWays$Stair;LStairWays$Climber;I)J", prog_12_method_9_code, 7, (some .long), 3),
  (10, "strideAt", "(LStairWays$Stair;LStairWays$Climber;JI)I", prog_12_method_10_code, 13, (some .int), 4),
  (10, "winning", "(LStairWays$Stair;LStairWays$Climber;I)I", prog_12_method_11_code, 8, (some .int), 3),
  (10, "begin", "(LStairWays$Stair;III)V", prog_12_method_12_code, 8, none, 4),
  (10, "findLastKinds", "(LStairWays$Stair;)V", prog_12_method_13_code, 3, none, 1),
  (10, "placeOf", "(LStairWays$Climber;)I", prog_12_method_14_code, 3, (some .int), 1),
  (10, "isEnd", "(LStairWays$Stair;LStairWays$Climber;)Z", prog_12_method_15_code, 3, (some .boolean), 2),
  (10, "isOpen", "(LStairWays$Stair;LStairWays$Climber;I)Z", prog_12_method_16_code, 4, (some .boolean), 3),
  (10, "agreesWithDust", "(II)Z", prog_12_method_17_code, 4, (some .boolean), 2),
  (11, "<init>", "()V", prog_1_method_1_code, 2, none, 0),
  (11, "feed", "(JJJ)I", prog_1_method_2_code, 7, (some .int), 3),
  (11, "stair", "()I", prog_1_method_3_code, 3, (some .int), 0),
  (11, "step", "(II)I", prog_1_method_4_code, 3, (some .int), 2),
  (11, "may", "(I)Z", prog_1_method_5_code, 2, (some .boolean), 1),
  (11, "stride", "(I)Z", prog_1_method_6_code, 2, (some .boolean), 1),
  (11, "back", "(Z)Z", prog_1_method_7_code, 2, (some .boolean), 1),
  (11, "taken", "(I)I", prog_1_method_8_code, 2, (some .int), 1),
  (11, "lawful", "()I", prog_1_method_9_code, 1, (some .int), 0),
  (11, "many", "()J", prog_1_method_10_code, 1, (some .long), 0),
  (11, "manyOf", "(I)J", prog_1_method_11_code, 2, (some .long), 1),
  (11, "rank", "()J", prog_1_method_12_code, 4, (some .long), 0),
  (11, "nth", "(JI)I", prog_1_method_13_code, 4, (some .int), 2),
  (11, "plain", "(II)I", prog_1_method_14_code, 3, (some .int), 2),
  (11, "crowd", "(JI)J", prog_1_method_15_code, 4, (some .long), 2),
  (11, "weary", "(J)J", prog_1_method_16_code, 3, (some .long), 1),
  (11, "weight", "(I)I", prog_1_method_17_code, 2, (some .int), 1),
  (11, "two", "()J", prog_1_method_18_code, 1, (some .long), 0),
  (11, "game", "()I", prog_1_method_19_code, 1, (some .int), 0),
  (11, "heaps", "(I)I", prog_1_method_20_code, 6, (some .int), 1),
  (11, "dust", "(II)Z", prog_1_method_21_code, 3, (some .boolean), 2),
  (11, "fit", "()J", prog_1_method_22_code, 1, (some .long), 0),
  (11, "fewest", "()I", prog_1_method_23_code, 1, (some .int), 0),
  (11, "still", "(IIIII)I", prog_1_method_24_code, 9, (some .int), 5),
  (11, "fair", "(II)I", prog_1_method_25_code, 7, (some .int), 2),
  (11, "climb", "(II)I", prog_1_method_26_code, 5, (some .int), 2),
  (11, "mark", "(IZ)Z", prog_1_method_27_code, 4, (some .boolean), 2),
  (11, "count", "(I)I", prog_1_method_28_code, 2, (some .int), 1),
  (11, "beginAnew", "()V", prog_1_method_29_code, 3, none, 0),
  (11, "manyFrom", "(LStairWays$Climber;)J", prog_1_method_30_code, 2, (some .long), 1),
  (11, "strideOf", "(JI)I", prog_1_method_31_code, 4, (some .int), 2),
  (11, "drawBelow", "(I)I", prog_1_method_32_code, 2, (some .int), 1),
  (11, "strideWeighing", "(I)I", prog_1_method_33_code, 4, (some .int), 1),
  (11, "isNoCrowd", "(J)Z", prog_1_method_34_code, 2, (some .boolean), 1),
  (11, "isNoStill", "(I)Z", prog_1_method_35_code, 1, (some .boolean), 1),
  (11, "isNoSeed", "(I)Z", prog_1_method_36_code, 1, (some .boolean), 1),
  (11, "commonDivisor", "(II)I", prog_1_method_37_code, 6, (some .int), 2),
  (12, "thrown", "()I", prog_14_method_1_code, 1, (some .int), 0),
  (12, "feed", "(JJJ)I", prog_14_method_2_code, 7, (some .int), 3),
  (12, "lay", "(J)V", prog_14_method_3_code, 5, none, 1),
  (12, "<init>", "()V", prog_14_method_4_code, 1, none, 0),
  (12, "isLetter", "(I)Z", prog_14_method_5_code, 1, (some .boolean), 1),
  (12, "isDigit", "(I)Z", prog_14_method_6_code, 1, (some .boolean), 1),
  (12, "rank", "(I)I", prog_14_method_7_code, 1, (some .int), 1),
  (12, "isSignOf", "(I)Z", prog_14_method_8_code, 1, (some .boolean), 1),
  (12, "cutAll", "()V", prog_14_method_9_code, 7, none, 0),
  (12, "wrong", "(I)V", prog_14_method_10_code, 2, none, 1),
  (12, "isSign", "(I)Z", prog_14_method_11_code, 2, (some .boolean), 1),
  (12, "isWord", "(I)Z", prog_14_method_12_code, 2, (some .boolean), 1),
  (12, "takeSign", "(I)V", prog_14_method_13_code, 2, none, 1),
  (12, "hasSign", "(I)Z", prog_14_method_14_code, 3, (some .boolean), 1),
  (12, "hasWord", "(I)Z", prog_14_method_15_code, 3, (some .boolean), 1),
  (12, "takeWord", "(I)V", prog_14_method_16_code, 2, none, 1),
  (12, "within", "(III)Z", prog_14_method_17_code, 3, (some .boolean), 3),
  (12, "standsAsAlways", "(I)V", prog_14_method_18_code, 3, none, 1),
  (12, "takeNumber", "(II)I", prog_14_method_19_code, 3, (some .int), 2),
  (12, "takeAfter", "(III)I", prog_14_method_20_code, 4, (some .int), 3),
  (12, "stair", "()I", prog_14_method_21_code, 2, (some .int), 0),
  (12, "sorts", "()V", prog_14_method_22_code, 5, none, 0),
  (12, "isOnce", "(I)Z", prog_14_method_23_code, 2, (some .boolean), 1),
  (12, "readLine", "()V", prog_14_method_24_code, 1, none, 0),
  (12, "readStep", "()V", prog_14_method_25_code, 3, none, 0),
  (12, "readBar", "()V", prog_14_method_26_code, 4, none, 0),
  (12, "isBarred", "(III)Z", prog_14_method_27_code, 6, (some .boolean), 3),
  (12, "readStrides", "()V", prog_14_method_28_code, 1, none, 0),
  (12, "readStride", "()V", prog_14_method_29_code, 4, none, 0),
  (12, "readFoot", "()V", prog_14_method_30_code, 1, none, 0),
  (12, "emit", "(II)V", prog_14_method_31_code, 3, none, 2),
  (12, "all", "(I)V", prog_14_method_32_code, 3, none, 1),
  (12, "test", "(I)V", prog_14_method_33_code, 3, none, 1),
  (12, "sums", "(I)V", prog_14_method_34_code, 3, none, 1),
  (12, "products", "(I)V", prog_14_method_35_code, 2, none, 1),
  (12, "takePart", "(I)V", prog_14_method_36_code, 5, none, 1),
  (12, "worthAt", "(I)I", prog_14_method_37_code, 5, (some .int), 1),
  (12, "both", "(III)I", prog_14_method_38_code, 3, (some .int), 3),
  (12, "steps", "()I", prog_14_method_39_code, 1, (some .int), 0),
  (12, "strides", "()I", prog_14_method_40_code, 1, (some .int), 0),
  (12, "strideOf", "(I)I", prog_14_method_41_code, 2, (some .int), 1),
  (12, "kindOf", "(I)I", prog_14_method_42_code, 2, (some .int), 1),
  (12, "takenMany", "()I", prog_14_method_43_code, 1, (some .int), 0),
  (12, "indexOf", "(I)I", prog_14_method_44_code, 4, (some .int), 1),
  (12, "isGreat", "(I)Z", prog_14_method_45_code, 2, (some .boolean), 1),
  (12, "findNow", "()V", prog_14_method_46_code, 3, none, 0),
  (12, "placeOf", "(IIIII)I", prog_14_method_47_code, 5, (some .int), 5),
  (12, "creakOf", "(I)I", prog_14_method_48_code, 2, (some .int), 1),
  (12, "isShut", "(I)Z", prog_14_method_49_code, 2, (some .boolean), 1),
  (12, "isMust", "(I)Z", prog_14_method_50_code, 2, (some .boolean), 1),
  (12, "passesMust", "(II)Z", prog_14_method_51_code, 5, (some .boolean), 2),
  (12, "mayNext", "(IIIIII)Z", prog_14_method_52_code, 9, (some .boolean), 6),
  (12, "nextAt", "(IIIIII)I", prog_14_method_53_code, 8, (some .int), 6),
  (12, "mostCreaks", "()I", prog_14_method_54_code, 1, (some .int), 0),
  (12, "mostGreats", "()I", prog_14_method_55_code, 1, (some .int), 0),
  (12, "isLawfulAt", "(I)Z", prog_14_method_56_code, 3, (some .boolean), 1),
  (12, "lays", "(IZ)V", prog_14_method_57_code, 8, none, 2),
  (12, "ways", "(IIIIII)J", prog_14_method_58_code, 10, (some .long), 6),
  (12, "wins", "(IIIII)J", prog_14_method_59_code, 8, (some .long), 5),
  (12, "nowAt", "()I", prog_14_method_60_code, 1, (some .int), 0),
  (12, "mayNow", "(I)Z", prog_14_method_61_code, 2, (some .boolean), 1),
  (12, "step", "(II)I", prog_14_method_62_code, 3, (some .int), 2),
  (12, "may", "(I)Z", prog_14_method_63_code, 3, (some .boolean), 1),
  (12, "stride", "(I)Z", prog_14_method_64_code, 2, (some .boolean), 1),
  (12, "back", "(Z)Z", prog_14_method_65_code, 2, (some .boolean), 1),
  (12, "taken", "(I)I", prog_14_method_66_code, 2, (some .int), 1),
  (12, "lawfulNow", "()I", prog_14_method_67_code, 2, (some .int), 0),
  (12, "lawful", "()I", prog_14_method_68_code, 1, (some .int), 0),
  (12, "many", "()J", prog_14_method_69_code, 1, (some .long), 0),
  (12, "manyOf", "(I)J", prog_14_method_70_code, 2, (some .long), 1),
  (12, "rank", "()J", prog_14_method_71_code, 6, (some .long), 0),
  (12, "strideAt", "(JI)I", prog_14_method_72_code, 14, (some .int), 2),
  (12, "nth", "(JI)I", prog_14_method_73_code, 6, (some .int), 2),
  (12, "multiplies", "([J[JI)V", prog_14_method_74_code, 9, none, 3),
  (12, "plain", "(II)I", prog_14_method_75_code, 4, (some .int), 2),
  (12, "squares", "(I)V", prog_14_method_76_code, 3, none, 1),
  (12, "weightAt", "(IIIIII)I", prog_14_method_77_code, 8, (some .int), 6),
  (12, "goesCrowd", "(J)V", prog_14_method_78_code, 8, none, 1),
  (12, "parts", "(IIIII)V", prog_14_method_79_code, 15, none, 5),
  (12, "moves", "(IIIIIIJ)V", prog_14_method_80_code, 9, none, 7),
  (12, "isCrowd", "(J)Z", prog_14_method_81_code, 2, (some .boolean), 1),
  (12, "crowd", "(JI)J", prog_14_method_82_code, 4, (some .long), 2),
  (12, "weary", "(J)J", prog_14_method_83_code, 3, (some .long), 1),
  (12, "weight", "(I)I", prog_14_method_84_code, 2, (some .int), 1),
  (12, "comes", "(III)I", prog_14_method_85_code, 5, (some .int), 3),
  (12, "two", "()J", prog_14_method_86_code, 10, (some .long), 0),
  (12, "game", "()I", prog_14_method_87_code, 2, (some .int), 0),
  (12, "findHeaps", "()V", prog_14_method_88_code, 5, none, 0),
  (12, "heaps", "(I)I", prog_14_method_89_code, 7, (some .int), 1),
  (12, "dust", "(II)Z", prog_14_method_90_code, 3, (some .boolean), 2),
  (12, "fit", "()J", prog_14_method_91_code, 1, (some .long), 0),
  (12, "isOpen", "(I)Z", prog_14_method_92_code, 2, (some .boolean), 1),
  (12, "findLeads", "()V", prog_14_method_93_code, 6, none, 0),
  (12, "isTrodden", "(I)Z", prog_14_method_94_code, 2, (some .boolean), 1),
  (12, "finds", "(I)Z", prog_14_method_95_code, 3, (some .boolean), 1),
  (12, "fewest", "()I", prog_14_method_96_code, 4, (some .int), 0),
  (12, "still", "(IIIII)I", prog_14_method_97_code, 11, (some .int), 5),
  (12, "draw", "(I)I", prog_14_method_98_code, 2, (some .int), 1),
  (12, "fair", "(II)I", prog_14_method_99_code, 7, (some .int), 2),
  (12, "climb", "(II)I", prog_14_method_100_code, 11, (some .int), 2),
  (12, "mark", "(IZ)Z", prog_14_method_101_code, 6, (some .boolean), 2),
  (12, "count", "(I)I", prog_14_method_102_code, 2, (some .int), 1),
  (14, "max", "(II)I", prog_20_method_65_code, 2, (some .int), 2),
  (14, "min", "(II)I", prog_20_method_69_code, 2, (some .int), 2),
  (15, "length", "()I", prog_22_method_54_code, 1, (some .int), 0),
  (15, "coder", "()B", prog_22_method_152_code, 1, (some .byte), 0),
  (15, "isLatin1", "()Z", prog_22_method_154_code, 1, (some .boolean), 0),
  (15, "charAt", "(I)C", prog_22_method_56_code, 2, (some .char), 1),
  (15, "indexOf", "(I)I", prog_22_method_79_code, 2, (some .int), 1),
  (15, "indexOf", "(II)I", prog_22_method_80_code, 3, (some .int), 2),
  (15, "checkIndex", "(II)V", prog_22_method_155_code, 2, none, 2),
  (16, "charAt", "([BI)C", prog_23_method_2_code, 2, (some .char), 2),
  (16, "canEncode", "(I)Z", prog_23_method_4_code, 1, (some .boolean), 1),
  (16, "indexOf", "([BIII)I", prog_23_method_22_code, 4, (some .int), 4),
  (16, "indexOfChar", "([BIII)I", prog_23_method_23_code, 6, (some .int), 4),
  (17, "checkIndex", "(IILjava/util/function/BiFunction;)I", prog_30_method_11_code, 3, (some .int), 3),
  (13, "law", "([I)Z", code, 7, (some .boolean), 1),
  (13, "plain", "(LStairWays;II[J)I", method_3_code, 5, (some .int), 4)]
def mpo : List (Nat × Nat × Nat × Nat × Nat) := [(0, 3, 88, 87, 0), (1, 0, 746, 744, 745), (2, 0, 750, 748, 749), (3, 0, 842, 840, 841), (4, 0, 771, 769, 770), (5, 0, 785, 783, 784), (6, 0, 793, 791, 792), (7, 0, 945, 943, 944), (8, 0, 941, 939, 940), (9, 0, 965, 963, 964), (10, 3, 257, 256, 0), (11, 3, 283, 282, 0), (12, 0, 735, 733, 734), (13, 0, 949, 947, 948), (14, 2, 952, 951, 0), (15, 2, 955, 954, 0), (16, 3, 230, 229, 0), (17, 0, 988, 986, 987), (18, 1, 993, 992, 0), (19, 2, 996, 995, 0), (20, 3, 240, 239, 0), (21, 0, 1165, 1163, 1164), (22, 1, 1169, 1168, 0), (23, 1, 1173, 1172, 0), (24, 3, 277, 276, 0), (25, 0, 400, 398, 399), (26, 0, 404, 402, 403), (27, 0, 408, 406, 407), (28, 0, 660, 658, 659), (29, 0, 682, 680, 681), (30, 0, 777, 775, 776), (31, 0, 805, 803, 804), (32, 0, 927, 925, 926), (33, 0, 825, 823, 824), (34, 0, 829, 827, 828), (35, 1, 412, 411, 0), (36, 1, 416, 415, 0), (37, 1, 420, 419, 0), (38, 3, 37, 36, 0), (39, 0, 479, 477, 478), (40, 1, 596, 595, 0), (41, 1, 647, 646, 0), (42, 1, 656, 655, 0), (43, 1, 666, 665, 0), (44, 1, 673, 672, 0), (45, 1, 678, 677, 0), (46, 1, 687, 686, 0), (47, 1, 694, 693, 0), (48, 1, 700, 699, 0), (49, 1, 706, 705, 0), (50, 1, 710, 709, 0), (51, 1, 714, 713, 0), (52, 1, 718, 717, 0), (53, 1, 722, 721, 0), (54, 1, 727, 726, 0), (55, 1, 652, 651, 0), (56, 1, 639, 638, 0), (57, 1, 635, 634, 0), (58, 1, 601, 600, 0), (59, 1, 643, 642, 0), (60, 1, 630, 629, 0), (61, 3, 214, 213, 0), (62, 0, 1033, 1031, 1032), (63, 1, 1037, 1036, 0), (64, 1, 1041, 1040, 0), (65, 1, 1045, 1044, 0), (66, 3, 43, 42, 0), (67, 0, 471, 469, 470), (68, 0, 484, 482, 483), (69, 0, 488, 486, 487), (70, 0, 605, 603, 604), (71, 1, 498, 497, 0), (72, 1, 505, 504, 0), (73, 2, 491, 490, 0), (74, 2, 494, 493, 0), (75, 2, 501, 500, 0), (76, 3, 170, 169, 0), (77, 0, 758, 756, 757), (78, 0, 916, 914, 915), (79, 1, 920, 919, 0), (80, 1, 932, 931, 0), (81, 1, 937, 936, 0), (82, 1, 961, 960, 0), (83, 1, 970, 969, 0), (84, 3, 129, 128, 0), (85, 0, 754, 752, 753), (86, 0, 817, 815, 816), (87, 0, 883, 881, 882), (88, 0, 1004, 1002, 1003), (89, 0, 1025, 1023, 1024), (90, 1, 849, 848, 0), (91, 1, 862, 861, 0), (92, 0, 892, 890, 891), (93, 0, 904, 902, 903), (94, 1, 1008, 1007, 0), (95, 1, 821, 820, 0), (96, 1, 833, 832, 0), (97, 1, 858, 857, 0), (98, 1, 853, 852, 0), (99, 1, 866, 865, 0), (100, 1, 871, 870, 0), (101, 3, 29, 28, 0), (102, 0, 467, 465, 466), (103, 0, 475, 473, 474), (104, 0, 763, 761, 762), (105, 0, 767, 765, 766), (106, 0, 781, 779, 780), (107, 0, 789, 787, 788), (108, 0, 797, 795, 796), (109, 0, 801, 799, 800), (110, 0, 809, 807, 808), (111, 0, 878, 876, 877), (112, 0, 887, 885, 886), (113, 0, 896, 894, 895), (114, 0, 1099, 1097, 1098), (115, 0, 908, 906, 907), (116, 0, 975, 973, 974), (117, 0, 979, 977, 978), (118, 0, 984, 982, 983), (119, 0, 1000, 998, 999), (120, 0, 1013, 1011, 1012), (121, 0, 1017, 1015, 1016), (122, 0, 1021, 1019, 1020), (123, 0, 1029, 1027, 1028), (124, 0, 1049, 1047, 1048), (125, 0, 1059, 1057, 1058), (126, 0, 1076, 1074, 1075), (127, 0, 1086, 1084, 1085), (128, 0, 1091, 1089, 1090), (129, 1, 742, 741, 0), (130, 1, 813, 812, 0), (131, 1, 900, 899, 0), (132, 1, 1067, 1066, 0), (133, 1, 1082, 1081, 0), (134, 2, 911, 910, 0), (135, 2, 1052, 1051, 0), (136, 2, 1062, 1061, 0), (137, 2, 1055, 1054, 0), (138, 0, 1178, 1176, 1177), (139, 0, 1182, 1180, 1181), (140, 1, 1187, 1185, 0), (141, 3, 1191, 1190, 0), (142, 2, 1343, 1342, 0), (143, 2, 1350, 1349, 0), (144, 2, 1347, 1346, 0), (145, 2, 1355, 1354, 0), (146, 1, 1340, 1339, 0), (147, 1, 1371, 1370, 0), (148, 1, 1383, 1382, 0), (149, 1, 1367, 1366, 0), (150, 1, 1379, 1378, 0), (151, 1, 1447, 1446, 0), (152, 1, 1363, 1362, 0), (153, 1, 1359, 1358, 0), (154, 2, 1466, 1465, 0), (155, 1, 1219, 1218, 0), (156, 1, 1375, 1374, 0), (157, 1, 1419, 1418, 0), (158, 0, 1336, 1334, 1335), (159, 1, 1451, 1450, 0), (160, 1, 1407, 1406, 0), (161, 1, 1387, 1386, 0), (162, 1, 1391, 1390, 0), (163, 1, 1395, 1394, 0), (164, 1, 1399, 1398, 0), (165, 1, 1403, 1402, 0), (166, 1, 1411, 1410, 0), (167, 1, 1415, 1414, 0), (168, 1, 1443, 1442, 0), (169, 1, 1423, 1422, 0), (170, 1, 1427, 1426, 0), (171, 1, 1431, 1430, 0), (172, 1, 1435, 1434, 0), (173, 1, 1439, 1438, 0), (174, 1, 1636, 1635, 0), (175, 2, 1639, 1638, 0), (176, 1, 1463, 1462, 0), (177, 1, 1455, 1454, 0), (178, 1, 1474, 1473, 0), (179, 1, 1478, 1477, 0), (180, 1, 1490, 1489, 0), (181, 1, 1494, 1493, 0), (182, 1, 1498, 1497, 0), (183, 1, 1486, 1485, 0), (184, 2, 1562, 1561, 0), (185, 1, 1506, 1505, 0), (186, 1, 1514, 1513, 0), (187, 1, 1522, 1521, 0), (188, 1, 1518, 1517, 0), (189, 1, 1510, 1509, 0), (190, 1, 1570, 1569, 0), (191, 1, 1555, 1554, 0), (192, 1, 1559, 1558, 0), (193, 1, 1578, 1577, 0), (194, 1, 1551, 1550, 0), (195, 1, 1574, 1573, 0), (196, 1, 1566, 1565, 0), (197, 1, 1582, 1581, 0), (198, 1, 1502, 1501, 0), (199, 0, 1459, 1457, 1458), (200, 0, 1482, 1480, 1481), (201, 0, 1526, 1524, 1525), (202, 0, 1531, 1529, 1530), (203, 0, 1535, 1533, 1534), (204, 1, 1543, 1542, 0), (205, 0, 1539, 1537, 1538), (206, 0, 1547, 1545, 1546), (207, 0, 1586, 1584, 1585), (208, 0, 1591, 1589, 1590), (209, 1, 1599, 1598, 0), (210, 0, 1595, 1593, 1594), (211, 1, 1608, 1607, 0), (212, 0, 1603, 1601, 1602), (213, 1, 1612, 1611, 0), (214, 1, 1632, 1631, 0), (215, 1, 1624, 1623, 0), (216, 1, 1628, 1627, 0), (217, 1, 1643, 1642, 0), (218, 2, 1619, 1618, 0), (219, 0, 1616, 1614, 1615), (220, 0, 1647, 1645, 1646), (221, 0, 1651, 1649, 1650), (222, 1, 1659, 1658, 0), (223, 0, 1655, 1653, 1654), (224, 0, 1663, 1661, 1662), (225, 1, 1470, 1469, 0), (226, 0, 1667, 1665, 1666), (227, 0, 1671, 1669, 1670), (228, 0, 1675, 1673, 1674), (229, 1, 1687, 1686, 0), (230, 1, 1683, 1682, 0), (231, 1, 1691, 1690, 0), (232, 1, 1695, 1694, 0), (233, 0, 1679, 1677, 1678), (234, 0, 1699, 1697, 1698), (235, 1, 1708, 1707, 0), (236, 0, 1703, 1701, 1702), (237, 0, 1717, 1715, 1716), (238, 0, 1721, 1719, 1720), (239, 0, 1725, 1723, 1724), (240, 2, 537, 536, 0), (241, 2, 540, 539, 0), (242, 0, 524, 522, 523), (243, 0, 528, 526, 527), (244, 0, 518, 516, 517), (245, 0, 610, 608, 609), (246, 0, 510, 508, 509), (247, 0, 514, 512, 513), (248, 2, 616, 615, 0), (249, 2, 613, 612, 0), (250, 2, 534, 533, 0), (251, 2, 531, 530, 0), (252, 2, 543, 542, 0), (253, 2, 619, 618, 0)]
def mD (mi : Nat) : Nat × String × String × ByteArray × Nat × Option FieldType × Nat := mtb.getD mi (0, "", "", .empty, 0, none, 0)
def mO (mi : Nat) : Nat := (mD mi).1
def mNm (mi : Nat) : String := (mD mi).2.1
def mDs (mi : Nat) : String := (mD mi).2.2.1
def mCd (mi : Nat) : ByteArray := (mD mi).2.2.2.1
def mMx (mi : Nat) : Nat := (mD mi).2.2.2.2.1
def mRt (mi : Nat) : Option FieldType := (mD mi).2.2.2.2.2.1
def mNp (mi : Nat) : Nat := (mD mi).2.2.2.2.2.2
def my (mi : Nat) : MethodName := ⟨ownOf (mO mi), mNm mi, mDs mi⟩
def nM : Nat := 254
/-- how a method is called: 0 virtual, 1 private, 2 static, 3 a constructor -/
def mKd (mi : Nat) : Nat := (mpo.getD mi (0, 9, 0, 0, 0)).2.1
theorem tt_lay : ∀ q ∈ layP, tables_1[q.2.2]? = some (u_lay (cC q.1) (cT q.1) q.2.1) := by decide +kernel
theorem tt_layAll : ∀ ci, ci < 13 → ∀ k, k < cF ci → ∃ q ∈ layP, q.1 = ci ∧ q.2.1 = k := by decide +kernel
theorem tt_ty : ∀ ci, ci < 13 → ∀ k, k < cF ci → parseFieldDescriptor (cT ci k).2.2.1 = some (cY ci k) := by decide +kernel
theorem tt_nm : ∀ ci, ci < 13 → ∀ a, a < cF ci → ∀ b, b < cF ci → a ≠ b → (cT ci a).2.1 ≠ (cT ci b).2.1 := by decide +kernel
theorem tt_fk : ∀ ci, ci < 13 → ∀ k, k < cF ci → tyOk (fK ci k) (cY ci k) = true := by decide +kernel
theorem tt_flk : ∀ q ∈ flk, tables_1[q.2.2.2.2]? = some (.fieldLink (ownOf q.1) q.2.1 (cT q.2.2.1 q.2.2.2.1).1 (cT q.2.2.1 q.2.2.2.1).2.1 (cT q.2.2.1 q.2.2.2.1).2.2.1) ∧ q.2.2.1 < 13 ∧ q.2.2.2.1 < cF q.2.2.1 := by decide +kernel
theorem tt_dcl : ∀ ci, ci < 13 → ∀ k, k < cF ci → (cT ci k).1 = cC ci ∧ ownOf ci = cC ci := by decide +kernel
def slF (k : Nat) : String × String × String := match k with
  | 0 => ("java/lang/String", "value", "[B")
  | 1 => ("java/lang/String", "coder", "B")
  | 2 => ("java/lang/String", "COMPACT_STRINGS", "Z")
  | _ => ("jdk/internal/util/Preconditions", "SIOOBE_FORMATTER", "Ljava/util/function/BiFunction;")
theorem tt_slk : ∀ q ∈ slk, tables_1[q.2.2.2]? = some (.fieldLink (ownOf q.1) q.2.1 (slF q.2.2.1).1 (slF q.2.2.1).2.1 (slF q.2.2.1).2.2) := by decide +kernel
theorem tt_mlk : ∀ q ∈ mlk, q.2.2.1 < nM ∧ tables_1[q.2.2.2.2]? = some (if q.2.2.2.1 = 0 then .methodLink (ownOf q.1) q.2.1 (my q.2.2.1) else .methodLinkNest (ownOf q.1) q.2.1 (my q.2.2.1) "StairWays") := by decide +kernel
theorem tt_olk : ∀ q ∈ olk, tables_1[q.2.2]? = some (.methodLink (ownOf q.1) q.2.1 objectInit) := by decide +kernel
theorem tt_alk : ∀ q ∈ alk, tables_1[q.2.2]? = some (.methodLink (ownOf q.1) q.2.1 arraycopyName) := by decide +kernel
theorem tt_clk : ∀ q ∈ clk, tables_1[q.2.2.2]? = some (.classLink (ownOf q.1) q.2.1 (cC q.2.2.1)) ∧ q.2.2.1 < 13 := by decide +kernel
theorem tt_cst : ∀ q ∈ cst, tables_1[q.2.2.2]? = some (.constant (ownOf q.1) q.2.1 q.2.2.1) := by decide +kernel
theorem tt_cstl : ∀ q ∈ cstl, tables_1[q.2.2.2]? = some (.constantLong (ownOf q.1) q.2.1 q.2.2.1) := by decide +kernel
theorem tt_srf : ∀ q ∈ srf, tables_1[q.2.2.2]? = some (.stringRef (ownOf q.1) q.2.1 (stx.getD q.2.2.1 "")) ∧ q.2.2.1 < 23 := by decide +kernel
theorem tt_in : ∀ q ∈ inP, tables_1[q.2]? = some (.initialized (ownOf q.1)) := by decide +kernel
theorem tt_nw : ∀ q ∈ nwP, tables_1[q.2]? = some (.instantiable (cC q.1) (cF q.1)) := by decide +kernel
theorem tt_mo : ∀ mi, mi < nM → mO mi < 18 ∧ (mpo.getD mi (0, 9, 0, 0, 0)).1 = mi := by decide +kernel
theorem tt_pf : ∀ mi, mi < nM → plainFor (my mi) = true := by decide +kernel
theorem tt_pl : ∀ k, k < 18 → ownOf k ≠ "java/lang/invoke/MethodHandle" ∧ ownOf k ≠ "java/lang/invoke/VarHandle" := by decide +kernel
theorem tt_np : ∀ mi, mi < nM → (parseMethodDescriptor (mDs mi)).map (fun d => d.parameters.length) = some (mNp mi) := by decide +kernel
theorem tt_mx : ∀ mi, mi < nM → mMx mi ≤ 20 := by decide +kernel
theorem tm1 {w : Cond} (h : w ∈ tables_1_1) : w ∈ tables_1 := List.mem_append_left _ h
theorem tm2 {w : Cond} (h : w ∈ tables_1_2) : w ∈ tables_1 := List.mem_append_right _ (List.mem_append_left _ h)
theorem tm3 {w : Cond} (h : w ∈ tables_1_3) : w ∈ tables_1 := List.mem_append_right _ (List.mem_append_right _ (List.mem_append_left _ h))
theorem tm4 {w : Cond} (h : w ∈ tables_1_4) : w ∈ tables_1 := List.mem_append_right _ (List.mem_append_right _ (List.mem_append_right _ (List.mem_append_left _ h)))
theorem tm5 {w : Cond} (h : w ∈ tables_1_5) : w ∈ tables_1 := List.mem_append_right _ (List.mem_append_right _ (List.mem_append_right _ (List.mem_append_right _ (List.mem_append_left _ h))))
theorem tm6 {w : Cond} (h : w ∈ tables_1_6) : w ∈ tables_1 := List.mem_append_right _ (List.mem_append_right _ (List.mem_append_right _ (List.mem_append_right _ (List.mem_append_right _ (List.mem_append_left _ h)))))
theorem tm7 {w : Cond} (h : w ∈ tables_1_7) : w ∈ tables_1 := List.mem_append_right _ (List.mem_append_right _ (List.mem_append_right _ (List.mem_append_right _ (List.mem_append_right _ (List.mem_append_right _ (List.mem_append_left _ h))))))
theorem tm8 {w : Cond} (h : w ∈ tables_1_8) : w ∈ tables_1 := List.mem_append_right _ (List.mem_append_right _ (List.mem_append_right _ (List.mem_append_right _ (List.mem_append_right _ (List.mem_append_right _ (List.mem_append_right _ (h)))))))
theorem mc_0 : Cond.code (my 0) (mCd 0) (mMx 0) (mRt 0) ∈ tables_1 := tm1 (List.mem_of_getElem? (i := 88) rfl)
theorem mc_1 : Cond.code (my 1) (mCd 1) (mMx 1) (mRt 1) ∈ tables_1 := tm4 (List.mem_of_getElem? (i := 26) rfl)
theorem mc_2 : Cond.code (my 2) (mCd 2) (mMx 2) (mRt 2) ∈ tables_1 := tm4 (List.mem_of_getElem? (i := 30) rfl)
theorem mc_3 : Cond.code (my 3) (mCd 3) (mMx 3) (mRt 3) ∈ tables_1 := tm4 (List.mem_of_getElem? (i := 122) rfl)
theorem mc_4 : Cond.code (my 4) (mCd 4) (mMx 4) (mRt 4) ∈ tables_1 := tm4 (List.mem_of_getElem? (i := 51) rfl)
theorem mc_5 : Cond.code (my 5) (mCd 5) (mMx 5) (mRt 5) ∈ tables_1 := tm4 (List.mem_of_getElem? (i := 65) rfl)
theorem mc_6 : Cond.code (my 6) (mCd 6) (mMx 6) (mRt 6) ∈ tables_1 := tm4 (List.mem_of_getElem? (i := 73) rfl)
theorem mc_7 : Cond.code (my 7) (mCd 7) (mMx 7) (mRt 7) ∈ tables_1 := tm4 (List.mem_of_getElem? (i := 225) rfl)
theorem mc_8 : Cond.code (my 8) (mCd 8) (mMx 8) (mRt 8) ∈ tables_1 := tm4 (List.mem_of_getElem? (i := 221) rfl)
theorem mc_9 : Cond.code (my 9) (mCd 9) (mMx 9) (mRt 9) ∈ tables_1 := tm5 (List.mem_of_getElem? (i := 5) rfl)
theorem mc_10 : Cond.code (my 10) (mCd 10) (mMx 10) (mRt 10) ∈ tables_1 := tm2 (List.mem_of_getElem? (i := 17) rfl)
theorem mc_11 : Cond.code (my 11) (mCd 11) (mMx 11) (mRt 11) ∈ tables_1 := tm2 (List.mem_of_getElem? (i := 43) rfl)
theorem mc_12 : Cond.code (my 12) (mCd 12) (mMx 12) (mRt 12) ∈ tables_1 := tm4 (List.mem_of_getElem? (i := 15) rfl)
theorem mc_13 : Cond.code (my 13) (mCd 13) (mMx 13) (mRt 13) ∈ tables_1 := tm4 (List.mem_of_getElem? (i := 229) rfl)
theorem mc_14 : Cond.code (my 14) (mCd 14) (mMx 14) (mRt 14) ∈ tables_1 := tm4 (List.mem_of_getElem? (i := 232) rfl)
theorem mc_15 : Cond.code (my 15) (mCd 15) (mMx 15) (mRt 15) ∈ tables_1 := tm4 (List.mem_of_getElem? (i := 235) rfl)
theorem mc_16 : Cond.code (my 16) (mCd 16) (mMx 16) (mRt 16) ∈ tables_1 := tm1 (List.mem_of_getElem? (i := 230) rfl)
theorem mc_17 : Cond.code (my 17) (mCd 17) (mMx 17) (mRt 17) ∈ tables_1 := tm5 (List.mem_of_getElem? (i := 28) rfl)
theorem mc_18 : Cond.code (my 18) (mCd 18) (mMx 18) (mRt 18) ∈ tables_1 := tm5 (List.mem_of_getElem? (i := 33) rfl)
theorem mc_19 : Cond.code (my 19) (mCd 19) (mMx 19) (mRt 19) ∈ tables_1 := tm5 (List.mem_of_getElem? (i := 36) rfl)
theorem mc_20 : Cond.code (my 20) (mCd 20) (mMx 20) (mRt 20) ∈ tables_1 := tm2 (List.mem_of_getElem? (i := 0) rfl)
theorem mc_21 : Cond.code (my 21) (mCd 21) (mMx 21) (mRt 21) ∈ tables_1 := tm5 (List.mem_of_getElem? (i := 205) rfl)
theorem mc_22 : Cond.code (my 22) (mCd 22) (mMx 22) (mRt 22) ∈ tables_1 := tm5 (List.mem_of_getElem? (i := 209) rfl)
theorem mc_23 : Cond.code (my 23) (mCd 23) (mMx 23) (mRt 23) ∈ tables_1 := tm5 (List.mem_of_getElem? (i := 213) rfl)
theorem mc_24 : Cond.code (my 24) (mCd 24) (mMx 24) (mRt 24) ∈ tables_1 := tm2 (List.mem_of_getElem? (i := 37) rfl)
theorem mc_25 : Cond.code (my 25) (mCd 25) (mMx 25) (mRt 25) ∈ tables_1 := tm2 (List.mem_of_getElem? (i := 160) rfl)
theorem mc_26 : Cond.code (my 26) (mCd 26) (mMx 26) (mRt 26) ∈ tables_1 := tm2 (List.mem_of_getElem? (i := 164) rfl)
theorem mc_27 : Cond.code (my 27) (mCd 27) (mMx 27) (mRt 27) ∈ tables_1 := tm2 (List.mem_of_getElem? (i := 168) rfl)
theorem mc_28 : Cond.code (my 28) (mCd 28) (mMx 28) (mRt 28) ∈ tables_1 := tm3 (List.mem_of_getElem? (i := 180) rfl)
theorem mc_29 : Cond.code (my 29) (mCd 29) (mMx 29) (mRt 29) ∈ tables_1 := tm3 (List.mem_of_getElem? (i := 202) rfl)
theorem mc_30 : Cond.code (my 30) (mCd 30) (mMx 30) (mRt 30) ∈ tables_1 := tm4 (List.mem_of_getElem? (i := 57) rfl)
theorem mc_31 : Cond.code (my 31) (mCd 31) (mMx 31) (mRt 31) ∈ tables_1 := tm4 (List.mem_of_getElem? (i := 85) rfl)
theorem mc_32 : Cond.code (my 32) (mCd 32) (mMx 32) (mRt 32) ∈ tables_1 := tm4 (List.mem_of_getElem? (i := 207) rfl)
theorem mc_33 : Cond.code (my 33) (mCd 33) (mMx 33) (mRt 33) ∈ tables_1 := tm4 (List.mem_of_getElem? (i := 105) rfl)
theorem mc_34 : Cond.code (my 34) (mCd 34) (mMx 34) (mRt 34) ∈ tables_1 := tm4 (List.mem_of_getElem? (i := 109) rfl)
theorem mc_35 : Cond.code (my 35) (mCd 35) (mMx 35) (mRt 35) ∈ tables_1 := tm2 (List.mem_of_getElem? (i := 172) rfl)
theorem mc_36 : Cond.code (my 36) (mCd 36) (mMx 36) (mRt 36) ∈ tables_1 := tm2 (List.mem_of_getElem? (i := 176) rfl)
theorem mc_37 : Cond.code (my 37) (mCd 37) (mMx 37) (mRt 37) ∈ tables_1 := tm2 (List.mem_of_getElem? (i := 180) rfl)
theorem mc_38 : Cond.code (my 38) (mCd 38) (mMx 38) (mRt 38) ∈ tables_1 := tm1 (List.mem_of_getElem? (i := 37) rfl)
theorem mc_39 : Cond.code (my 39) (mCd 39) (mMx 39) (mRt 39) ∈ tables_1 := tm2 (List.mem_of_getElem? (i := 239) rfl)
theorem mc_40 : Cond.code (my 40) (mCd 40) (mMx 40) (mRt 40) ∈ tables_1 := tm3 (List.mem_of_getElem? (i := 116) rfl)
theorem mc_41 : Cond.code (my 41) (mCd 41) (mMx 41) (mRt 41) ∈ tables_1 := tm3 (List.mem_of_getElem? (i := 167) rfl)
theorem mc_42 : Cond.code (my 42) (mCd 42) (mMx 42) (mRt 42) ∈ tables_1 := tm3 (List.mem_of_getElem? (i := 176) rfl)
theorem mc_43 : Cond.code (my 43) (mCd 43) (mMx 43) (mRt 43) ∈ tables_1 := tm3 (List.mem_of_getElem? (i := 186) rfl)
theorem mc_44 : Cond.code (my 44) (mCd 44) (mMx 44) (mRt 44) ∈ tables_1 := tm3 (List.mem_of_getElem? (i := 193) rfl)
theorem mc_45 : Cond.code (my 45) (mCd 45) (mMx 45) (mRt 45) ∈ tables_1 := tm3 (List.mem_of_getElem? (i := 198) rfl)
theorem mc_46 : Cond.code (my 46) (mCd 46) (mMx 46) (mRt 46) ∈ tables_1 := tm3 (List.mem_of_getElem? (i := 207) rfl)
theorem mc_47 : Cond.code (my 47) (mCd 47) (mMx 47) (mRt 47) ∈ tables_1 := tm3 (List.mem_of_getElem? (i := 214) rfl)
theorem mc_48 : Cond.code (my 48) (mCd 48) (mMx 48) (mRt 48) ∈ tables_1 := tm3 (List.mem_of_getElem? (i := 220) rfl)
theorem mc_49 : Cond.code (my 49) (mCd 49) (mMx 49) (mRt 49) ∈ tables_1 := tm3 (List.mem_of_getElem? (i := 226) rfl)
theorem mc_50 : Cond.code (my 50) (mCd 50) (mMx 50) (mRt 50) ∈ tables_1 := tm3 (List.mem_of_getElem? (i := 230) rfl)
theorem mc_51 : Cond.code (my 51) (mCd 51) (mMx 51) (mRt 51) ∈ tables_1 := tm3 (List.mem_of_getElem? (i := 234) rfl)
theorem mc_52 : Cond.code (my 52) (mCd 52) (mMx 52) (mRt 52) ∈ tables_1 := tm3 (List.mem_of_getElem? (i := 238) rfl)
theorem mc_53 : Cond.code (my 53) (mCd 53) (mMx 53) (mRt 53) ∈ tables_1 := tm4 (List.mem_of_getElem? (i := 2) rfl)
theorem mc_54 : Cond.code (my 54) (mCd 54) (mMx 54) (mRt 54) ∈ tables_1 := tm4 (List.mem_of_getElem? (i := 7) rfl)
theorem mc_55 : Cond.code (my 55) (mCd 55) (mMx 55) (mRt 55) ∈ tables_1 := tm3 (List.mem_of_getElem? (i := 172) rfl)
theorem mc_56 : Cond.code (my 56) (mCd 56) (mMx 56) (mRt 56) ∈ tables_1 := tm3 (List.mem_of_getElem? (i := 159) rfl)
theorem mc_57 : Cond.code (my 57) (mCd 57) (mMx 57) (mRt 57) ∈ tables_1 := tm3 (List.mem_of_getElem? (i := 155) rfl)
theorem mc_58 : Cond.code (my 58) (mCd 58) (mMx 58) (mRt 58) ∈ tables_1 := tm3 (List.mem_of_getElem? (i := 121) rfl)
theorem mc_59 : Cond.code (my 59) (mCd 59) (mMx 59) (mRt 59) ∈ tables_1 := tm3 (List.mem_of_getElem? (i := 163) rfl)
theorem mc_60 : Cond.code (my 60) (mCd 60) (mMx 60) (mRt 60) ∈ tables_1 := tm3 (List.mem_of_getElem? (i := 150) rfl)
theorem mc_61 : Cond.code (my 61) (mCd 61) (mMx 61) (mRt 61) ∈ tables_1 := tm1 (List.mem_of_getElem? (i := 214) rfl)
theorem mc_62 : Cond.code (my 62) (mCd 62) (mMx 62) (mRt 62) ∈ tables_1 := tm5 (List.mem_of_getElem? (i := 73) rfl)
theorem mc_63 : Cond.code (my 63) (mCd 63) (mMx 63) (mRt 63) ∈ tables_1 := tm5 (List.mem_of_getElem? (i := 77) rfl)
theorem mc_64 : Cond.code (my 64) (mCd 64) (mMx 64) (mRt 64) ∈ tables_1 := tm5 (List.mem_of_getElem? (i := 81) rfl)
theorem mc_65 : Cond.code (my 65) (mCd 65) (mMx 65) (mRt 65) ∈ tables_1 := tm5 (List.mem_of_getElem? (i := 85) rfl)
theorem mc_66 : Cond.code (my 66) (mCd 66) (mMx 66) (mRt 66) ∈ tables_1 := tm1 (List.mem_of_getElem? (i := 43) rfl)
theorem mc_67 : Cond.code (my 67) (mCd 67) (mMx 67) (mRt 67) ∈ tables_1 := tm2 (List.mem_of_getElem? (i := 231) rfl)
theorem mc_68 : Cond.code (my 68) (mCd 68) (mMx 68) (mRt 68) ∈ tables_1 := tm3 (List.mem_of_getElem? (i := 4) rfl)
theorem mc_69 : Cond.code (my 69) (mCd 69) (mMx 69) (mRt 69) ∈ tables_1 := tm3 (List.mem_of_getElem? (i := 8) rfl)
theorem mc_70 : Cond.code (my 70) (mCd 70) (mMx 70) (mRt 70) ∈ tables_1 := tm3 (List.mem_of_getElem? (i := 125) rfl)
theorem mc_71 : Cond.code (my 71) (mCd 71) (mMx 71) (mRt 71) ∈ tables_1 := tm3 (List.mem_of_getElem? (i := 18) rfl)
theorem mc_72 : Cond.code (my 72) (mCd 72) (mMx 72) (mRt 72) ∈ tables_1 := tm3 (List.mem_of_getElem? (i := 25) rfl)
theorem mc_73 : Cond.code (my 73) (mCd 73) (mMx 73) (mRt 73) ∈ tables_1 := tm3 (List.mem_of_getElem? (i := 11) rfl)
theorem mc_74 : Cond.code (my 74) (mCd 74) (mMx 74) (mRt 74) ∈ tables_1 := tm3 (List.mem_of_getElem? (i := 14) rfl)
theorem mc_75 : Cond.code (my 75) (mCd 75) (mMx 75) (mRt 75) ∈ tables_1 := tm3 (List.mem_of_getElem? (i := 21) rfl)
theorem mc_76 : Cond.code (my 76) (mCd 76) (mMx 76) (mRt 76) ∈ tables_1 := tm1 (List.mem_of_getElem? (i := 170) rfl)
theorem mc_77 : Cond.code (my 77) (mCd 77) (mMx 77) (mRt 77) ∈ tables_1 := tm4 (List.mem_of_getElem? (i := 38) rfl)
theorem mc_78 : Cond.code (my 78) (mCd 78) (mMx 78) (mRt 78) ∈ tables_1 := tm4 (List.mem_of_getElem? (i := 196) rfl)
theorem mc_79 : Cond.code (my 79) (mCd 79) (mMx 79) (mRt 79) ∈ tables_1 := tm4 (List.mem_of_getElem? (i := 200) rfl)
theorem mc_80 : Cond.code (my 80) (mCd 80) (mMx 80) (mRt 80) ∈ tables_1 := tm4 (List.mem_of_getElem? (i := 212) rfl)
theorem mc_81 : Cond.code (my 81) (mCd 81) (mMx 81) (mRt 81) ∈ tables_1 := tm4 (List.mem_of_getElem? (i := 217) rfl)
theorem mc_82 : Cond.code (my 82) (mCd 82) (mMx 82) (mRt 82) ∈ tables_1 := tm5 (List.mem_of_getElem? (i := 1) rfl)
theorem mc_83 : Cond.code (my 83) (mCd 83) (mMx 83) (mRt 83) ∈ tables_1 := tm5 (List.mem_of_getElem? (i := 10) rfl)
theorem mc_84 : Cond.code (my 84) (mCd 84) (mMx 84) (mRt 84) ∈ tables_1 := tm1 (List.mem_of_getElem? (i := 129) rfl)
theorem mc_85 : Cond.code (my 85) (mCd 85) (mMx 85) (mRt 85) ∈ tables_1 := tm4 (List.mem_of_getElem? (i := 34) rfl)
theorem mc_86 : Cond.code (my 86) (mCd 86) (mMx 86) (mRt 86) ∈ tables_1 := tm4 (List.mem_of_getElem? (i := 97) rfl)
theorem mc_87 : Cond.code (my 87) (mCd 87) (mMx 87) (mRt 87) ∈ tables_1 := tm4 (List.mem_of_getElem? (i := 163) rfl)
theorem mc_88 : Cond.code (my 88) (mCd 88) (mMx 88) (mRt 88) ∈ tables_1 := tm5 (List.mem_of_getElem? (i := 44) rfl)
theorem mc_89 : Cond.code (my 89) (mCd 89) (mMx 89) (mRt 89) ∈ tables_1 := tm5 (List.mem_of_getElem? (i := 65) rfl)
theorem mc_90 : Cond.code (my 90) (mCd 90) (mMx 90) (mRt 90) ∈ tables_1 := tm4 (List.mem_of_getElem? (i := 129) rfl)
theorem mc_91 : Cond.code (my 91) (mCd 91) (mMx 91) (mRt 91) ∈ tables_1 := tm4 (List.mem_of_getElem? (i := 142) rfl)
theorem mc_92 : Cond.code (my 92) (mCd 92) (mMx 92) (mRt 92) ∈ tables_1 := tm4 (List.mem_of_getElem? (i := 172) rfl)
theorem mc_93 : Cond.code (my 93) (mCd 93) (mMx 93) (mRt 93) ∈ tables_1 := tm4 (List.mem_of_getElem? (i := 184) rfl)
theorem mc_94 : Cond.code (my 94) (mCd 94) (mMx 94) (mRt 94) ∈ tables_1 := tm5 (List.mem_of_getElem? (i := 48) rfl)
theorem mc_95 : Cond.code (my 95) (mCd 95) (mMx 95) (mRt 95) ∈ tables_1 := tm4 (List.mem_of_getElem? (i := 101) rfl)
theorem mc_96 : Cond.code (my 96) (mCd 96) (mMx 96) (mRt 96) ∈ tables_1 := tm4 (List.mem_of_getElem? (i := 113) rfl)
theorem mc_97 : Cond.code (my 97) (mCd 97) (mMx 97) (mRt 97) ∈ tables_1 := tm4 (List.mem_of_getElem? (i := 138) rfl)
theorem mc_98 : Cond.code (my 98) (mCd 98) (mMx 98) (mRt 98) ∈ tables_1 := tm4 (List.mem_of_getElem? (i := 133) rfl)
theorem mc_99 : Cond.code (my 99) (mCd 99) (mMx 99) (mRt 99) ∈ tables_1 := tm4 (List.mem_of_getElem? (i := 146) rfl)
theorem mc_100 : Cond.code (my 100) (mCd 100) (mMx 100) (mRt 100) ∈ tables_1 := tm4 (List.mem_of_getElem? (i := 151) rfl)
theorem mc_101 : Cond.code (my 101) (mCd 101) (mMx 101) (mRt 101) ∈ tables_1 := tm1 (List.mem_of_getElem? (i := 29) rfl)
theorem mc_102 : Cond.code (my 102) (mCd 102) (mMx 102) (mRt 102) ∈ tables_1 := tm2 (List.mem_of_getElem? (i := 227) rfl)
theorem mc_103 : Cond.code (my 103) (mCd 103) (mMx 103) (mRt 103) ∈ tables_1 := tm2 (List.mem_of_getElem? (i := 235) rfl)
theorem mc_104 : Cond.code (my 104) (mCd 104) (mMx 104) (mRt 104) ∈ tables_1 := tm4 (List.mem_of_getElem? (i := 43) rfl)
theorem mc_105 : Cond.code (my 105) (mCd 105) (mMx 105) (mRt 105) ∈ tables_1 := tm4 (List.mem_of_getElem? (i := 47) rfl)
theorem mc_106 : Cond.code (my 106) (mCd 106) (mMx 106) (mRt 106) ∈ tables_1 := tm4 (List.mem_of_getElem? (i := 61) rfl)
theorem mc_107 : Cond.code (my 107) (mCd 107) (mMx 107) (mRt 107) ∈ tables_1 := tm4 (List.mem_of_getElem? (i := 69) rfl)
theorem mc_108 : Cond.code (my 108) (mCd 108) (mMx 108) (mRt 108) ∈ tables_1 := tm4 (List.mem_of_getElem? (i := 77) rfl)
theorem mc_109 : Cond.code (my 109) (mCd 109) (mMx 109) (mRt 109) ∈ tables_1 := tm4 (List.mem_of_getElem? (i := 81) rfl)
theorem mc_110 : Cond.code (my 110) (mCd 110) (mMx 110) (mRt 110) ∈ tables_1 := tm4 (List.mem_of_getElem? (i := 89) rfl)
theorem mc_111 : Cond.code (my 111) (mCd 111) (mMx 111) (mRt 111) ∈ tables_1 := tm4 (List.mem_of_getElem? (i := 158) rfl)
theorem mc_112 : Cond.code (my 112) (mCd 112) (mMx 112) (mRt 112) ∈ tables_1 := tm4 (List.mem_of_getElem? (i := 167) rfl)
theorem mc_113 : Cond.code (my 113) (mCd 113) (mMx 113) (mRt 113) ∈ tables_1 := tm4 (List.mem_of_getElem? (i := 176) rfl)
theorem mc_114 : Cond.code (my 114) (mCd 114) (mMx 114) (mRt 114) ∈ tables_1 := tm5 (List.mem_of_getElem? (i := 139) rfl)
theorem mc_115 : Cond.code (my 115) (mCd 115) (mMx 115) (mRt 115) ∈ tables_1 := tm4 (List.mem_of_getElem? (i := 188) rfl)
theorem mc_116 : Cond.code (my 116) (mCd 116) (mMx 116) (mRt 116) ∈ tables_1 := tm5 (List.mem_of_getElem? (i := 15) rfl)
theorem mc_117 : Cond.code (my 117) (mCd 117) (mMx 117) (mRt 117) ∈ tables_1 := tm5 (List.mem_of_getElem? (i := 19) rfl)
theorem mc_118 : Cond.code (my 118) (mCd 118) (mMx 118) (mRt 118) ∈ tables_1 := tm5 (List.mem_of_getElem? (i := 24) rfl)
theorem mc_119 : Cond.code (my 119) (mCd 119) (mMx 119) (mRt 119) ∈ tables_1 := tm5 (List.mem_of_getElem? (i := 40) rfl)
theorem mc_120 : Cond.code (my 120) (mCd 120) (mMx 120) (mRt 120) ∈ tables_1 := tm5 (List.mem_of_getElem? (i := 53) rfl)
theorem mc_121 : Cond.code (my 121) (mCd 121) (mMx 121) (mRt 121) ∈ tables_1 := tm5 (List.mem_of_getElem? (i := 57) rfl)
theorem mc_122 : Cond.code (my 122) (mCd 122) (mMx 122) (mRt 122) ∈ tables_1 := tm5 (List.mem_of_getElem? (i := 61) rfl)
theorem mc_123 : Cond.code (my 123) (mCd 123) (mMx 123) (mRt 123) ∈ tables_1 := tm5 (List.mem_of_getElem? (i := 69) rfl)
theorem mc_124 : Cond.code (my 124) (mCd 124) (mMx 124) (mRt 124) ∈ tables_1 := tm5 (List.mem_of_getElem? (i := 89) rfl)
theorem mc_125 : Cond.code (my 125) (mCd 125) (mMx 125) (mRt 125) ∈ tables_1 := tm5 (List.mem_of_getElem? (i := 99) rfl)
theorem mc_126 : Cond.code (my 126) (mCd 126) (mMx 126) (mRt 126) ∈ tables_1 := tm5 (List.mem_of_getElem? (i := 116) rfl)
theorem mc_127 : Cond.code (my 127) (mCd 127) (mMx 127) (mRt 127) ∈ tables_1 := tm5 (List.mem_of_getElem? (i := 126) rfl)
theorem mc_128 : Cond.code (my 128) (mCd 128) (mMx 128) (mRt 128) ∈ tables_1 := tm5 (List.mem_of_getElem? (i := 131) rfl)
theorem mc_129 : Cond.code (my 129) (mCd 129) (mMx 129) (mRt 129) ∈ tables_1 := tm4 (List.mem_of_getElem? (i := 22) rfl)
theorem mc_130 : Cond.code (my 130) (mCd 130) (mMx 130) (mRt 130) ∈ tables_1 := tm4 (List.mem_of_getElem? (i := 93) rfl)
theorem mc_131 : Cond.code (my 131) (mCd 131) (mMx 131) (mRt 131) ∈ tables_1 := tm4 (List.mem_of_getElem? (i := 180) rfl)
theorem mc_132 : Cond.code (my 132) (mCd 132) (mMx 132) (mRt 132) ∈ tables_1 := tm5 (List.mem_of_getElem? (i := 107) rfl)
theorem mc_133 : Cond.code (my 133) (mCd 133) (mMx 133) (mRt 133) ∈ tables_1 := tm5 (List.mem_of_getElem? (i := 122) rfl)
theorem mc_134 : Cond.code (my 134) (mCd 134) (mMx 134) (mRt 134) ∈ tables_1 := tm4 (List.mem_of_getElem? (i := 191) rfl)
theorem mc_135 : Cond.code (my 135) (mCd 135) (mMx 135) (mRt 135) ∈ tables_1 := tm5 (List.mem_of_getElem? (i := 92) rfl)
theorem mc_136 : Cond.code (my 136) (mCd 136) (mMx 136) (mRt 136) ∈ tables_1 := tm5 (List.mem_of_getElem? (i := 102) rfl)
theorem mc_137 : Cond.code (my 137) (mCd 137) (mMx 137) (mRt 137) ∈ tables_1 := tm5 (List.mem_of_getElem? (i := 95) rfl)
theorem mc_138 : Cond.code (my 138) (mCd 138) (mMx 138) (mRt 138) ∈ tables_1 := tm5 (List.mem_of_getElem? (i := 218) rfl)
theorem mc_139 : Cond.code (my 139) (mCd 139) (mMx 139) (mRt 139) ∈ tables_1 := tm5 (List.mem_of_getElem? (i := 222) rfl)
theorem mc_140 : Cond.code (my 140) (mCd 140) (mMx 140) (mRt 140) ∈ tables_1 := tm5 (List.mem_of_getElem? (i := 227) rfl)
theorem mc_141 : Cond.code (my 141) (mCd 141) (mMx 141) (mRt 141) ∈ tables_1 := tm5 (List.mem_of_getElem? (i := 231) rfl)
theorem mc_142 : Cond.code (my 142) (mCd 142) (mMx 142) (mRt 142) ∈ tables_1 := tm6 (List.mem_of_getElem? (i := 143) rfl)
theorem mc_143 : Cond.code (my 143) (mCd 143) (mMx 143) (mRt 143) ∈ tables_1 := tm6 (List.mem_of_getElem? (i := 150) rfl)
theorem mc_144 : Cond.code (my 144) (mCd 144) (mMx 144) (mRt 144) ∈ tables_1 := tm6 (List.mem_of_getElem? (i := 147) rfl)
theorem mc_145 : Cond.code (my 145) (mCd 145) (mMx 145) (mRt 145) ∈ tables_1 := tm6 (List.mem_of_getElem? (i := 155) rfl)
theorem mc_146 : Cond.code (my 146) (mCd 146) (mMx 146) (mRt 146) ∈ tables_1 := tm6 (List.mem_of_getElem? (i := 140) rfl)
theorem mc_147 : Cond.code (my 147) (mCd 147) (mMx 147) (mRt 147) ∈ tables_1 := tm6 (List.mem_of_getElem? (i := 171) rfl)
theorem mc_148 : Cond.code (my 148) (mCd 148) (mMx 148) (mRt 148) ∈ tables_1 := tm6 (List.mem_of_getElem? (i := 183) rfl)
theorem mc_149 : Cond.code (my 149) (mCd 149) (mMx 149) (mRt 149) ∈ tables_1 := tm6 (List.mem_of_getElem? (i := 167) rfl)
theorem mc_150 : Cond.code (my 150) (mCd 150) (mMx 150) (mRt 150) ∈ tables_1 := tm6 (List.mem_of_getElem? (i := 179) rfl)
theorem mc_151 : Cond.code (my 151) (mCd 151) (mMx 151) (mRt 151) ∈ tables_1 := tm7 (List.mem_of_getElem? (i := 7) rfl)
theorem mc_152 : Cond.code (my 152) (mCd 152) (mMx 152) (mRt 152) ∈ tables_1 := tm6 (List.mem_of_getElem? (i := 163) rfl)
theorem mc_153 : Cond.code (my 153) (mCd 153) (mMx 153) (mRt 153) ∈ tables_1 := tm6 (List.mem_of_getElem? (i := 159) rfl)
theorem mc_154 : Cond.code (my 154) (mCd 154) (mMx 154) (mRt 154) ∈ tables_1 := tm7 (List.mem_of_getElem? (i := 26) rfl)
theorem mc_155 : Cond.code (my 155) (mCd 155) (mMx 155) (mRt 155) ∈ tables_1 := tm6 (List.mem_of_getElem? (i := 19) rfl)
theorem mc_156 : Cond.code (my 156) (mCd 156) (mMx 156) (mRt 156) ∈ tables_1 := tm6 (List.mem_of_getElem? (i := 175) rfl)
theorem mc_157 : Cond.code (my 157) (mCd 157) (mMx 157) (mRt 157) ∈ tables_1 := tm6 (List.mem_of_getElem? (i := 219) rfl)
theorem mc_158 : Cond.code (my 158) (mCd 158) (mMx 158) (mRt 158) ∈ tables_1 := tm6 (List.mem_of_getElem? (i := 136) rfl)
theorem mc_159 : Cond.code (my 159) (mCd 159) (mMx 159) (mRt 159) ∈ tables_1 := tm7 (List.mem_of_getElem? (i := 11) rfl)
theorem mc_160 : Cond.code (my 160) (mCd 160) (mMx 160) (mRt 160) ∈ tables_1 := tm6 (List.mem_of_getElem? (i := 207) rfl)
theorem mc_161 : Cond.code (my 161) (mCd 161) (mMx 161) (mRt 161) ∈ tables_1 := tm6 (List.mem_of_getElem? (i := 187) rfl)
theorem mc_162 : Cond.code (my 162) (mCd 162) (mMx 162) (mRt 162) ∈ tables_1 := tm6 (List.mem_of_getElem? (i := 191) rfl)
theorem mc_163 : Cond.code (my 163) (mCd 163) (mMx 163) (mRt 163) ∈ tables_1 := tm6 (List.mem_of_getElem? (i := 195) rfl)
theorem mc_164 : Cond.code (my 164) (mCd 164) (mMx 164) (mRt 164) ∈ tables_1 := tm6 (List.mem_of_getElem? (i := 199) rfl)
theorem mc_165 : Cond.code (my 165) (mCd 165) (mMx 165) (mRt 165) ∈ tables_1 := tm6 (List.mem_of_getElem? (i := 203) rfl)
theorem mc_166 : Cond.code (my 166) (mCd 166) (mMx 166) (mRt 166) ∈ tables_1 := tm6 (List.mem_of_getElem? (i := 211) rfl)
theorem mc_167 : Cond.code (my 167) (mCd 167) (mMx 167) (mRt 167) ∈ tables_1 := tm6 (List.mem_of_getElem? (i := 215) rfl)
theorem mc_168 : Cond.code (my 168) (mCd 168) (mMx 168) (mRt 168) ∈ tables_1 := tm7 (List.mem_of_getElem? (i := 3) rfl)
theorem mc_169 : Cond.code (my 169) (mCd 169) (mMx 169) (mRt 169) ∈ tables_1 := tm6 (List.mem_of_getElem? (i := 223) rfl)
theorem mc_170 : Cond.code (my 170) (mCd 170) (mMx 170) (mRt 170) ∈ tables_1 := tm6 (List.mem_of_getElem? (i := 227) rfl)
theorem mc_171 : Cond.code (my 171) (mCd 171) (mMx 171) (mRt 171) ∈ tables_1 := tm6 (List.mem_of_getElem? (i := 231) rfl)
theorem mc_172 : Cond.code (my 172) (mCd 172) (mMx 172) (mRt 172) ∈ tables_1 := tm6 (List.mem_of_getElem? (i := 235) rfl)
theorem mc_173 : Cond.code (my 173) (mCd 173) (mMx 173) (mRt 173) ∈ tables_1 := tm6 (List.mem_of_getElem? (i := 239) rfl)
theorem mc_174 : Cond.code (my 174) (mCd 174) (mMx 174) (mRt 174) ∈ tables_1 := tm7 (List.mem_of_getElem? (i := 196) rfl)
theorem mc_175 : Cond.code (my 175) (mCd 175) (mMx 175) (mRt 175) ∈ tables_1 := tm7 (List.mem_of_getElem? (i := 199) rfl)
theorem mc_176 : Cond.code (my 176) (mCd 176) (mMx 176) (mRt 176) ∈ tables_1 := tm7 (List.mem_of_getElem? (i := 23) rfl)
theorem mc_177 : Cond.code (my 177) (mCd 177) (mMx 177) (mRt 177) ∈ tables_1 := tm7 (List.mem_of_getElem? (i := 15) rfl)
theorem mc_178 : Cond.code (my 178) (mCd 178) (mMx 178) (mRt 178) ∈ tables_1 := tm7 (List.mem_of_getElem? (i := 34) rfl)
theorem mc_179 : Cond.code (my 179) (mCd 179) (mMx 179) (mRt 179) ∈ tables_1 := tm7 (List.mem_of_getElem? (i := 38) rfl)
theorem mc_180 : Cond.code (my 180) (mCd 180) (mMx 180) (mRt 180) ∈ tables_1 := tm7 (List.mem_of_getElem? (i := 50) rfl)
theorem mc_181 : Cond.code (my 181) (mCd 181) (mMx 181) (mRt 181) ∈ tables_1 := tm7 (List.mem_of_getElem? (i := 54) rfl)
theorem mc_182 : Cond.code (my 182) (mCd 182) (mMx 182) (mRt 182) ∈ tables_1 := tm7 (List.mem_of_getElem? (i := 58) rfl)
theorem mc_183 : Cond.code (my 183) (mCd 183) (mMx 183) (mRt 183) ∈ tables_1 := tm7 (List.mem_of_getElem? (i := 46) rfl)
theorem mc_184 : Cond.code (my 184) (mCd 184) (mMx 184) (mRt 184) ∈ tables_1 := tm7 (List.mem_of_getElem? (i := 122) rfl)
theorem mc_185 : Cond.code (my 185) (mCd 185) (mMx 185) (mRt 185) ∈ tables_1 := tm7 (List.mem_of_getElem? (i := 66) rfl)
theorem mc_186 : Cond.code (my 186) (mCd 186) (mMx 186) (mRt 186) ∈ tables_1 := tm7 (List.mem_of_getElem? (i := 74) rfl)
theorem mc_187 : Cond.code (my 187) (mCd 187) (mMx 187) (mRt 187) ∈ tables_1 := tm7 (List.mem_of_getElem? (i := 82) rfl)
theorem mc_188 : Cond.code (my 188) (mCd 188) (mMx 188) (mRt 188) ∈ tables_1 := tm7 (List.mem_of_getElem? (i := 78) rfl)
theorem mc_189 : Cond.code (my 189) (mCd 189) (mMx 189) (mRt 189) ∈ tables_1 := tm7 (List.mem_of_getElem? (i := 70) rfl)
theorem mc_190 : Cond.code (my 190) (mCd 190) (mMx 190) (mRt 190) ∈ tables_1 := tm7 (List.mem_of_getElem? (i := 130) rfl)
theorem mc_191 : Cond.code (my 191) (mCd 191) (mMx 191) (mRt 191) ∈ tables_1 := tm7 (List.mem_of_getElem? (i := 115) rfl)
theorem mc_192 : Cond.code (my 192) (mCd 192) (mMx 192) (mRt 192) ∈ tables_1 := tm7 (List.mem_of_getElem? (i := 119) rfl)
theorem mc_193 : Cond.code (my 193) (mCd 193) (mMx 193) (mRt 193) ∈ tables_1 := tm7 (List.mem_of_getElem? (i := 138) rfl)
theorem mc_194 : Cond.code (my 194) (mCd 194) (mMx 194) (mRt 194) ∈ tables_1 := tm7 (List.mem_of_getElem? (i := 111) rfl)
theorem mc_195 : Cond.code (my 195) (mCd 195) (mMx 195) (mRt 195) ∈ tables_1 := tm7 (List.mem_of_getElem? (i := 134) rfl)
theorem mc_196 : Cond.code (my 196) (mCd 196) (mMx 196) (mRt 196) ∈ tables_1 := tm7 (List.mem_of_getElem? (i := 126) rfl)
theorem mc_197 : Cond.code (my 197) (mCd 197) (mMx 197) (mRt 197) ∈ tables_1 := tm7 (List.mem_of_getElem? (i := 142) rfl)
theorem mc_198 : Cond.code (my 198) (mCd 198) (mMx 198) (mRt 198) ∈ tables_1 := tm7 (List.mem_of_getElem? (i := 62) rfl)
theorem mc_199 : Cond.code (my 199) (mCd 199) (mMx 199) (mRt 199) ∈ tables_1 := tm7 (List.mem_of_getElem? (i := 19) rfl)
theorem mc_200 : Cond.code (my 200) (mCd 200) (mMx 200) (mRt 200) ∈ tables_1 := tm7 (List.mem_of_getElem? (i := 42) rfl)
theorem mc_201 : Cond.code (my 201) (mCd 201) (mMx 201) (mRt 201) ∈ tables_1 := tm7 (List.mem_of_getElem? (i := 86) rfl)
theorem mc_202 : Cond.code (my 202) (mCd 202) (mMx 202) (mRt 202) ∈ tables_1 := tm7 (List.mem_of_getElem? (i := 91) rfl)
theorem mc_203 : Cond.code (my 203) (mCd 203) (mMx 203) (mRt 203) ∈ tables_1 := tm7 (List.mem_of_getElem? (i := 95) rfl)
theorem mc_204 : Cond.code (my 204) (mCd 204) (mMx 204) (mRt 204) ∈ tables_1 := tm7 (List.mem_of_getElem? (i := 103) rfl)
theorem mc_205 : Cond.code (my 205) (mCd 205) (mMx 205) (mRt 205) ∈ tables_1 := tm7 (List.mem_of_getElem? (i := 99) rfl)
theorem mc_206 : Cond.code (my 206) (mCd 206) (mMx 206) (mRt 206) ∈ tables_1 := tm7 (List.mem_of_getElem? (i := 107) rfl)
theorem mc_207 : Cond.code (my 207) (mCd 207) (mMx 207) (mRt 207) ∈ tables_1 := tm7 (List.mem_of_getElem? (i := 146) rfl)
theorem mc_208 : Cond.code (my 208) (mCd 208) (mMx 208) (mRt 208) ∈ tables_1 := tm7 (List.mem_of_getElem? (i := 151) rfl)
theorem mc_209 : Cond.code (my 209) (mCd 209) (mMx 209) (mRt 209) ∈ tables_1 := tm7 (List.mem_of_getElem? (i := 159) rfl)
theorem mc_210 : Cond.code (my 210) (mCd 210) (mMx 210) (mRt 210) ∈ tables_1 := tm7 (List.mem_of_getElem? (i := 155) rfl)
theorem mc_211 : Cond.code (my 211) (mCd 211) (mMx 211) (mRt 211) ∈ tables_1 := tm7 (List.mem_of_getElem? (i := 168) rfl)
theorem mc_212 : Cond.code (my 212) (mCd 212) (mMx 212) (mRt 212) ∈ tables_1 := tm7 (List.mem_of_getElem? (i := 163) rfl)
theorem mc_213 : Cond.code (my 213) (mCd 213) (mMx 213) (mRt 213) ∈ tables_1 := tm7 (List.mem_of_getElem? (i := 172) rfl)
theorem mc_214 : Cond.code (my 214) (mCd 214) (mMx 214) (mRt 214) ∈ tables_1 := tm7 (List.mem_of_getElem? (i := 192) rfl)
theorem mc_215 : Cond.code (my 215) (mCd 215) (mMx 215) (mRt 215) ∈ tables_1 := tm7 (List.mem_of_getElem? (i := 184) rfl)
theorem mc_216 : Cond.code (my 216) (mCd 216) (mMx 216) (mRt 216) ∈ tables_1 := tm7 (List.mem_of_getElem? (i := 188) rfl)
theorem mc_217 : Cond.code (my 217) (mCd 217) (mMx 217) (mRt 217) ∈ tables_1 := tm7 (List.mem_of_getElem? (i := 203) rfl)
theorem mc_218 : Cond.code (my 218) (mCd 218) (mMx 218) (mRt 218) ∈ tables_1 := tm7 (List.mem_of_getElem? (i := 179) rfl)
theorem mc_219 : Cond.code (my 219) (mCd 219) (mMx 219) (mRt 219) ∈ tables_1 := tm7 (List.mem_of_getElem? (i := 176) rfl)
theorem mc_220 : Cond.code (my 220) (mCd 220) (mMx 220) (mRt 220) ∈ tables_1 := tm7 (List.mem_of_getElem? (i := 207) rfl)
theorem mc_221 : Cond.code (my 221) (mCd 221) (mMx 221) (mRt 221) ∈ tables_1 := tm7 (List.mem_of_getElem? (i := 211) rfl)
theorem mc_222 : Cond.code (my 222) (mCd 222) (mMx 222) (mRt 222) ∈ tables_1 := tm7 (List.mem_of_getElem? (i := 219) rfl)
theorem mc_223 : Cond.code (my 223) (mCd 223) (mMx 223) (mRt 223) ∈ tables_1 := tm7 (List.mem_of_getElem? (i := 215) rfl)
theorem mc_224 : Cond.code (my 224) (mCd 224) (mMx 224) (mRt 224) ∈ tables_1 := tm7 (List.mem_of_getElem? (i := 223) rfl)
theorem mc_225 : Cond.code (my 225) (mCd 225) (mMx 225) (mRt 225) ∈ tables_1 := tm7 (List.mem_of_getElem? (i := 30) rfl)
theorem mc_226 : Cond.code (my 226) (mCd 226) (mMx 226) (mRt 226) ∈ tables_1 := tm7 (List.mem_of_getElem? (i := 227) rfl)
theorem mc_227 : Cond.code (my 227) (mCd 227) (mMx 227) (mRt 227) ∈ tables_1 := tm7 (List.mem_of_getElem? (i := 231) rfl)
theorem mc_228 : Cond.code (my 228) (mCd 228) (mMx 228) (mRt 228) ∈ tables_1 := tm7 (List.mem_of_getElem? (i := 235) rfl)
theorem mc_229 : Cond.code (my 229) (mCd 229) (mMx 229) (mRt 229) ∈ tables_1 := tm8 (List.mem_of_getElem? (i := 7) rfl)
theorem mc_230 : Cond.code (my 230) (mCd 230) (mMx 230) (mRt 230) ∈ tables_1 := tm8 (List.mem_of_getElem? (i := 3) rfl)
theorem mc_231 : Cond.code (my 231) (mCd 231) (mMx 231) (mRt 231) ∈ tables_1 := tm8 (List.mem_of_getElem? (i := 11) rfl)
theorem mc_232 : Cond.code (my 232) (mCd 232) (mMx 232) (mRt 232) ∈ tables_1 := tm8 (List.mem_of_getElem? (i := 15) rfl)
theorem mc_233 : Cond.code (my 233) (mCd 233) (mMx 233) (mRt 233) ∈ tables_1 := tm7 (List.mem_of_getElem? (i := 239) rfl)
theorem mc_234 : Cond.code (my 234) (mCd 234) (mMx 234) (mRt 234) ∈ tables_1 := tm8 (List.mem_of_getElem? (i := 19) rfl)
theorem mc_235 : Cond.code (my 235) (mCd 235) (mMx 235) (mRt 235) ∈ tables_1 := tm8 (List.mem_of_getElem? (i := 28) rfl)
theorem mc_236 : Cond.code (my 236) (mCd 236) (mMx 236) (mRt 236) ∈ tables_1 := tm8 (List.mem_of_getElem? (i := 23) rfl)
theorem mc_237 : Cond.code (my 237) (mCd 237) (mMx 237) (mRt 237) ∈ tables_1 := tm8 (List.mem_of_getElem? (i := 37) rfl)
theorem mc_238 : Cond.code (my 238) (mCd 238) (mMx 238) (mRt 238) ∈ tables_1 := tm8 (List.mem_of_getElem? (i := 41) rfl)
theorem mc_239 : Cond.code (my 239) (mCd 239) (mMx 239) (mRt 239) ∈ tables_1 := tm8 (List.mem_of_getElem? (i := 45) rfl)
theorem mc_240 : Cond.code (my 240) (mCd 240) (mMx 240) (mRt 240) ∈ tables_1 := tm3 (List.mem_of_getElem? (i := 57) rfl)
theorem mc_241 : Cond.code (my 241) (mCd 241) (mMx 241) (mRt 241) ∈ tables_1 := tm3 (List.mem_of_getElem? (i := 60) rfl)
theorem mc_242 : Cond.code (my 242) (mCd 242) (mMx 242) (mRt 242) ∈ tables_1 := tm3 (List.mem_of_getElem? (i := 44) rfl)
theorem mc_243 : Cond.code (my 243) (mCd 243) (mMx 243) (mRt 243) ∈ tables_1 := tm3 (List.mem_of_getElem? (i := 48) rfl)
theorem mc_244 : Cond.code (my 244) (mCd 244) (mMx 244) (mRt 244) ∈ tables_1 := tm3 (List.mem_of_getElem? (i := 38) rfl)
theorem mc_245 : Cond.code (my 245) (mCd 245) (mMx 245) (mRt 245) ∈ tables_1 := tm3 (List.mem_of_getElem? (i := 130) rfl)
theorem mc_246 : Cond.code (my 246) (mCd 246) (mMx 246) (mRt 246) ∈ tables_1 := tm3 (List.mem_of_getElem? (i := 30) rfl)
theorem mc_247 : Cond.code (my 247) (mCd 247) (mMx 247) (mRt 247) ∈ tables_1 := tm3 (List.mem_of_getElem? (i := 34) rfl)
theorem mc_248 : Cond.code (my 248) (mCd 248) (mMx 248) (mRt 248) ∈ tables_1 := tm3 (List.mem_of_getElem? (i := 136) rfl)
theorem mc_249 : Cond.code (my 249) (mCd 249) (mMx 249) (mRt 249) ∈ tables_1 := tm3 (List.mem_of_getElem? (i := 133) rfl)
theorem mc_250 : Cond.code (my 250) (mCd 250) (mMx 250) (mRt 250) ∈ tables_1 := tm3 (List.mem_of_getElem? (i := 54) rfl)
theorem mc_251 : Cond.code (my 251) (mCd 251) (mMx 251) (mRt 251) ∈ tables_1 := tm3 (List.mem_of_getElem? (i := 51) rfl)
theorem mc_252 : Cond.code (my 252) (mCd 252) (mMx 252) (mRt 252) ∈ tables_1 := tm3 (List.mem_of_getElem? (i := 63) rfl)
theorem mc_253 : Cond.code (my 253) (mCd 253) (mMx 253) (mRt 253) ∈ tables_1 := tm3 (List.mem_of_getElem? (i := 139) rfl)
theorem mcAll : ∀ mi, mi < nM → Cond.code (my mi) (mCd mi) (mMx mi) (mRt mi) ∈ tables_1
  | 0, _ => mc_0
  | 1, _ => mc_1
  | 2, _ => mc_2
  | 3, _ => mc_3
  | 4, _ => mc_4
  | 5, _ => mc_5
  | 6, _ => mc_6
  | 7, _ => mc_7
  | 8, _ => mc_8
  | 9, _ => mc_9
  | 10, _ => mc_10
  | 11, _ => mc_11
  | 12, _ => mc_12
  | 13, _ => mc_13
  | 14, _ => mc_14
  | 15, _ => mc_15
  | 16, _ => mc_16
  | 17, _ => mc_17
  | 18, _ => mc_18
  | 19, _ => mc_19
  | 20, _ => mc_20
  | 21, _ => mc_21
  | 22, _ => mc_22
  | 23, _ => mc_23
  | 24, _ => mc_24
  | 25, _ => mc_25
  | 26, _ => mc_26
  | 27, _ => mc_27
  | 28, _ => mc_28
  | 29, _ => mc_29
  | 30, _ => mc_30
  | 31, _ => mc_31
  | 32, _ => mc_32
  | 33, _ => mc_33
  | 34, _ => mc_34
  | 35, _ => mc_35
  | 36, _ => mc_36
  | 37, _ => mc_37
  | 38, _ => mc_38
  | 39, _ => mc_39
  | 40, _ => mc_40
  | 41, _ => mc_41
  | 42, _ => mc_42
  | 43, _ => mc_43
  | 44, _ => mc_44
  | 45, _ => mc_45
  | 46, _ => mc_46
  | 47, _ => mc_47
  | 48, _ => mc_48
  | 49, _ => mc_49
  | 50, _ => mc_50
  | 51, _ => mc_51
  | 52, _ => mc_52
  | 53, _ => mc_53
  | 54, _ => mc_54
  | 55, _ => mc_55
  | 56, _ => mc_56
  | 57, _ => mc_57
  | 58, _ => mc_58
  | 59, _ => mc_59
  | 60, _ => mc_60
  | 61, _ => mc_61
  | 62, _ => mc_62
  | 63, _ => mc_63
  | 64, _ => mc_64
  | 65, _ => mc_65
  | 66, _ => mc_66
  | 67, _ => mc_67
  | 68, _ => mc_68
  | 69, _ => mc_69
  | 70, _ => mc_70
  | 71, _ => mc_71
  | 72, _ => mc_72
  | 73, _ => mc_73
  | 74, _ => mc_74
  | 75, _ => mc_75
  | 76, _ => mc_76
  | 77, _ => mc_77
  | 78, _ => mc_78
  | 79, _ => mc_79
  | 80, _ => mc_80
  | 81, _ => mc_81
  | 82, _ => mc_82
  | 83, _ => mc_83
  | 84, _ => mc_84
  | 85, _ => mc_85
  | 86, _ => mc_86
  | 87, _ => mc_87
  | 88, _ => mc_88
  | 89, _ => mc_89
  | 90, _ => mc_90
  | 91, _ => mc_91
  | 92, _ => mc_92
  | 93, _ => mc_93
  | 94, _ => mc_94
  | 95, _ => mc_95
  | 96, _ => mc_96
  | 97, _ => mc_97
  | 98, _ => mc_98
  | 99, _ => mc_99
  | 100, _ => mc_100
  | 101, _ => mc_101
  | 102, _ => mc_102
  | 103, _ => mc_103
  | 104, _ => mc_104
  | 105, _ => mc_105
  | 106, _ => mc_106
  | 107, _ => mc_107
  | 108, _ => mc_108
  | 109, _ => mc_109
  | 110, _ => mc_110
  | 111, _ => mc_111
  | 112, _ => mc_112
  | 113, _ => mc_113
  | 114, _ => mc_114
  | 115, _ => mc_115
  | 116, _ => mc_116
  | 117, _ => mc_117
  | 118, _ => mc_118
  | 119, _ => mc_119
  | 120, _ => mc_120
  | 121, _ => mc_121
  | 122, _ => mc_122
  | 123, _ => mc_123
  | 124, _ => mc_124
  | 125, _ => mc_125
  | 126, _ => mc_126
  | 127, _ => mc_127
  | 128, _ => mc_128
  | 129, _ => mc_129
  | 130, _ => mc_130
  | 131, _ => mc_131
  | 132, _ => mc_132
  | 133, _ => mc_133
  | 134, _ => mc_134
  | 135, _ => mc_135
  | 136, _ => mc_136
  | 137, _ => mc_137
  | 138, _ => mc_138
  | 139, _ => mc_139
  | 140, _ => mc_140
  | 141, _ => mc_141
  | 142, _ => mc_142
  | 143, _ => mc_143
  | 144, _ => mc_144
  | 145, _ => mc_145
  | 146, _ => mc_146
  | 147, _ => mc_147
  | 148, _ => mc_148
  | 149, _ => mc_149
  | 150, _ => mc_150
  | 151, _ => mc_151
  | 152, _ => mc_152
  | 153, _ => mc_153
  | 154, _ => mc_154
  | 155, _ => mc_155
  | 156, _ => mc_156
  | 157, _ => mc_157
  | 158, _ => mc_158
  | 159, _ => mc_159
  | 160, _ => mc_160
  | 161, _ => mc_161
  | 162, _ => mc_162
  | 163, _ => mc_163
  | 164, _ => mc_164
  | 165, _ => mc_165
  | 166, _ => mc_166
  | 167, _ => mc_167
  | 168, _ => mc_168
  | 169, _ => mc_169
  | 170, _ => mc_170
  | 171, _ => mc_171
  | 172, _ => mc_172
  | 173, _ => mc_173
  | 174, _ => mc_174
  | 175, _ => mc_175
  | 176, _ => mc_176
  | 177, _ => mc_177
  | 178, _ => mc_178
  | 179, _ => mc_179
  | 180, _ => mc_180
  | 181, _ => mc_181
  | 182, _ => mc_182
  | 183, _ => mc_183
  | 184, _ => mc_184
  | 185, _ => mc_185
  | 186, _ => mc_186
  | 187, _ => mc_187
  | 188, _ => mc_188
  | 189, _ => mc_189
  | 190, _ => mc_190
  | 191, _ => mc_191
  | 192, _ => mc_192
  | 193, _ => mc_193
  | 194, _ => mc_194
  | 195, _ => mc_195
  | 196, _ => mc_196
  | 197, _ => mc_197
  | 198, _ => mc_198
  | 199, _ => mc_199
  | 200, _ => mc_200
  | 201, _ => mc_201
  | 202, _ => mc_202
  | 203, _ => mc_203
  | 204, _ => mc_204
  | 205, _ => mc_205
  | 206, _ => mc_206
  | 207, _ => mc_207
  | 208, _ => mc_208
  | 209, _ => mc_209
  | 210, _ => mc_210
  | 211, _ => mc_211
  | 212, _ => mc_212
  | 213, _ => mc_213
  | 214, _ => mc_214
  | 215, _ => mc_215
  | 216, _ => mc_216
  | 217, _ => mc_217
  | 218, _ => mc_218
  | 219, _ => mc_219
  | 220, _ => mc_220
  | 221, _ => mc_221
  | 222, _ => mc_222
  | 223, _ => mc_223
  | 224, _ => mc_224
  | 225, _ => mc_225
  | 226, _ => mc_226
  | 227, _ => mc_227
  | 228, _ => mc_228
  | 229, _ => mc_229
  | 230, _ => mc_230
  | 231, _ => mc_231
  | 232, _ => mc_232
  | 233, _ => mc_233
  | 234, _ => mc_234
  | 235, _ => mc_235
  | 236, _ => mc_236
  | 237, _ => mc_237
  | 238, _ => mc_238
  | 239, _ => mc_239
  | 240, _ => mc_240
  | 241, _ => mc_241
  | 242, _ => mc_242
  | 243, _ => mc_243
  | 244, _ => mc_244
  | 245, _ => mc_245
  | 246, _ => mc_246
  | 247, _ => mc_247
  | 248, _ => mc_248
  | 249, _ => mc_249
  | 250, _ => mc_250
  | 251, _ => mc_251
  | 252, _ => mc_252
  | 253, _ => mc_253
  | n + 254, h => absurd h (by unfold nM; omega)
theorem tt_mp0 : ∀ q ∈ (mpo.drop 0).take 32, tables_1[q.2.2.2.1]? = some (if q.2.1 = 2 then .static (my q.1) else .instanceMethod (my q.1)) ∧ (q.2.1 = 0 → tables_1[q.2.2.2.2]? = some (.selects (my q.1).cls (my q.1) (my q.1))) ∧ (q.2.1 = 1 → ∃ z ∈ lw_privs, z.1 = my q.1) ∧ (q.2.1 = 3 → mNm q.1 = "<init>") := by decide +kernel
theorem tt_mp32 : ∀ q ∈ (mpo.drop 32).take 32, tables_1[q.2.2.2.1]? = some (if q.2.1 = 2 then .static (my q.1) else .instanceMethod (my q.1)) ∧ (q.2.1 = 0 → tables_1[q.2.2.2.2]? = some (.selects (my q.1).cls (my q.1) (my q.1))) ∧ (q.2.1 = 1 → ∃ z ∈ lw_privs, z.1 = my q.1) ∧ (q.2.1 = 3 → mNm q.1 = "<init>") := by decide +kernel
theorem tt_mp64 : ∀ q ∈ (mpo.drop 64).take 32, tables_1[q.2.2.2.1]? = some (if q.2.1 = 2 then .static (my q.1) else .instanceMethod (my q.1)) ∧ (q.2.1 = 0 → tables_1[q.2.2.2.2]? = some (.selects (my q.1).cls (my q.1) (my q.1))) ∧ (q.2.1 = 1 → ∃ z ∈ lw_privs, z.1 = my q.1) ∧ (q.2.1 = 3 → mNm q.1 = "<init>") := by decide +kernel
theorem tt_mp96 : ∀ q ∈ (mpo.drop 96).take 32, tables_1[q.2.2.2.1]? = some (if q.2.1 = 2 then .static (my q.1) else .instanceMethod (my q.1)) ∧ (q.2.1 = 0 → tables_1[q.2.2.2.2]? = some (.selects (my q.1).cls (my q.1) (my q.1))) ∧ (q.2.1 = 1 → ∃ z ∈ lw_privs, z.1 = my q.1) ∧ (q.2.1 = 3 → mNm q.1 = "<init>") := by decide +kernel
theorem tt_mp128 : ∀ q ∈ (mpo.drop 128).take 32, tables_1[q.2.2.2.1]? = some (if q.2.1 = 2 then .static (my q.1) else .instanceMethod (my q.1)) ∧ (q.2.1 = 0 → tables_1[q.2.2.2.2]? = some (.selects (my q.1).cls (my q.1) (my q.1))) ∧ (q.2.1 = 1 → ∃ z ∈ lw_privs, z.1 = my q.1) ∧ (q.2.1 = 3 → mNm q.1 = "<init>") := by decide +kernel
theorem tt_mp160 : ∀ q ∈ (mpo.drop 160).take 32, tables_1[q.2.2.2.1]? = some (if q.2.1 = 2 then .static (my q.1) else .instanceMethod (my q.1)) ∧ (q.2.1 = 0 → tables_1[q.2.2.2.2]? = some (.selects (my q.1).cls (my q.1) (my q.1))) ∧ (q.2.1 = 1 → ∃ z ∈ lw_privs, z.1 = my q.1) ∧ (q.2.1 = 3 → mNm q.1 = "<init>") := by decide +kernel
theorem tt_mp192 : ∀ q ∈ (mpo.drop 192).take 32, tables_1[q.2.2.2.1]? = some (if q.2.1 = 2 then .static (my q.1) else .instanceMethod (my q.1)) ∧ (q.2.1 = 0 → tables_1[q.2.2.2.2]? = some (.selects (my q.1).cls (my q.1) (my q.1))) ∧ (q.2.1 = 1 → ∃ z ∈ lw_privs, z.1 = my q.1) ∧ (q.2.1 = 3 → mNm q.1 = "<init>") := by decide +kernel
theorem tt_mp224 : ∀ q ∈ (mpo.drop 224).take 30, tables_1[q.2.2.2.1]? = some (if q.2.1 = 2 then .static (my q.1) else .instanceMethod (my q.1)) ∧ (q.2.1 = 0 → tables_1[q.2.2.2.2]? = some (.selects (my q.1).cls (my q.1) (my q.1))) ∧ (q.2.1 = 1 → ∃ z ∈ lw_privs, z.1 = my q.1) ∧ (q.2.1 = 3 → mNm q.1 = "<init>") := by decide +kernel
