/-! THE PROGRAM AS DATA, written by wip/whole/gen.py out of the claim: classes, fields, methods, their code. -/
def zCn : List String := ["TemperDowns$Book", "TemperDowns$Chance", "TemperDowns$Downs", "TemperDowns$Forecast", "TemperDowns$Guess", "TemperDowns$Land", "TemperDowns$Plans", "TemperDowns$PutBy", "TemperDowns$Reader", "TemperDowns$Rule", "TemperDowns$Scene", "TemperDowns", "TemperDownsModel", "TemperDownsLaw", "java/lang/Integer", "java/lang/String", "java/lang/StringLatin1", "jdk/internal/util/Preconditions"]
noncomputable def zFl : List (String × List (String × String × String × Bool)) := [("TemperDowns$Book", [("TemperDowns$Book", "scene", "LTemperDowns$Scene;", true), ("TemperDowns$Book", "acts", "I", false), ("TemperDowns$Book", "ahead", "[I", true), ("TemperDowns$Book", "sights", "I", false), ("TemperDowns$Book", "seenBall", "[I", true), ("TemperDowns$Book", "seenDays", "[I", true), ("TemperDowns$Book", "seenWhite", "[I", true)]),
  ("TemperDowns$Chance", [("TemperDowns$Chance", "burstsDrawn", "I", false), ("TemperDowns$Chance", "shoutsDrawn", "I", false), ("TemperDowns$Chance", "temperDrawn", "I", false), ("TemperDowns$Chance", "downs", "LTemperDowns$Downs;", true), ("TemperDowns$Chance", "land", "LTemperDowns$Land;", true), ("TemperDowns$Chance", "now", "LTemperDowns$Scene;", true), ("TemperDowns$Chance", "scene", "LTemperDowns$Scene;", true), ("TemperDowns$Chance", "lossOfOne", "[I", true), ("TemperDowns$Chance", "lossOfOther", "[I", true), ("TemperDowns$Chance", "seed", "I", false)]),
  ("TemperDowns$Downs", [("TemperDowns$Downs", "land", "LTemperDowns$Land;", true), ("TemperDowns$Downs", "latest", "[I", true), ("TemperDowns$Downs", "links", "[I", true), ("TemperDowns$Downs", "values", "[I", true), ("TemperDowns$Downs", "stack", "[I", true)]),
  ("TemperDowns$Forecast", [("TemperDowns$Forecast", "downs", "LTemperDowns$Downs;", true), ("TemperDowns$Forecast", "now", "LTemperDowns$Scene;", true), ("TemperDowns$Forecast", "scene", "LTemperDowns$Scene;", true)]),
  ("TemperDowns$Guess", [("TemperDowns$Guess", "many", "I", false), ("TemperDowns$Guess", "first", "I", false), ("TemperDowns$Guess", "downs", "LTemperDowns$Downs;", true), ("TemperDowns$Guess", "land", "LTemperDowns$Land;", true), ("TemperDowns$Guess", "book", "LTemperDowns$Book;", true), ("TemperDowns$Guess", "scene", "LTemperDowns$Scene;", true), ("TemperDowns$Guess", "looked", "LTemperDowns$Scene;", true), ("TemperDowns$Guess", "marks", "[I", true)]),
  ("TemperDowns$Land", [("TemperDowns$Land", "width", "I", false), ("TemperDowns$Land", "height", "I", false), ("TemperDowns$Land", "cells", "I", false), ("TemperDowns$Land", "people", "I", false), ("TemperDowns$Land", "balls", "I", false), ("TemperDowns$Land", "home", "[I", true), ("TemperDowns$Land", "size", "[I", true), ("TemperDowns$Land", "rises", "LTemperDowns$Rule;", true), ("TemperDowns$Land", "bursts", "LTemperDowns$Rule;", true), ("TemperDowns$Land", "across", "[I", true), ("TemperDowns$Land", "down", "[I", true)]),
  ("TemperDowns$Plans", [("TemperDowns$Plans", "downs", "LTemperDowns$Downs;", true), ("TemperDowns$Plans", "land", "LTemperDowns$Land;", true), ("TemperDowns$Plans", "now", "LTemperDowns$Scene;", true), ("TemperDowns$Plans", "chains", "[I", true), ("TemperDowns$Plans", "steps", "[I", true), ("TemperDowns$Plans", "queue", "[I", true)]),
  ("TemperDowns$PutBy", [("TemperDowns$PutBy", "many", "I", false), ("TemperDowns$PutBy", "wasted", "I", false), ("TemperDowns$PutBy", "row", "[I", true), ("TemperDowns$PutBy", "land", "LTemperDowns$Land;", true), ("TemperDowns$PutBy", "now", "LTemperDowns$Scene;", true), ("TemperDowns$PutBy", "byTemper", "[I", true), ("TemperDowns$PutBy", "bySize", "[I", true)]),
  ("TemperDowns$Reader", [("TemperDowns$Reader", "land", "LTemperDowns$Land;", true), ("TemperDowns$Reader", "start", "LTemperDowns$Scene;", true), ("TemperDowns$Reader", "place", "I", false), ("TemperDowns$Reader", "code", "I", false), ("TemperDowns$Reader", "text", "[I", true), ("TemperDowns$Reader", "length", "I", false), ("TemperDowns$Reader", "from", "I", false), ("TemperDowns$Reader", "end", "I", false), ("TemperDowns$Reader", "kind", "I", false), ("TemperDowns$Reader", "value", "I", false), ("TemperDowns$Reader", "tooLong", "Z", false), ("TemperDowns$Reader", "number", "I", false), ("TemperDowns$Reader", "rule", "LTemperDowns$Rule;", false), ("TemperDowns$Reader", "ofPeople", "Z", false)]),
  ("TemperDowns$Rule", [("TemperDowns$Rule", "steps", "[I", true), ("TemperDowns$Rule", "length", "I", false)]),
  ("TemperDowns$Scene", [("TemperDowns$Scene", "row", "[I", true)]),
  ("TemperDowns", [("TemperDowns", "tape", "[I", true), ("TemperDowns", "tapeLength", "I", false), ("TemperDowns", "faultPlace", "I", false), ("TemperDowns", "refused", "[I", true), ("TemperDowns", "land", "LTemperDowns$Land;", true), ("TemperDowns", "reader", "LTemperDowns$Reader;", true), ("TemperDowns", "book", "LTemperDowns$Book;", true), ("TemperDowns", "kept", "LTemperDowns$Book;", true), ("TemperDowns", "hasImage", "Z", false), ("TemperDowns", "now", "LTemperDowns$Scene;", true), ("TemperDowns", "downs", "LTemperDowns$Downs;", true), ("TemperDowns", "forecast", "LTemperDowns$Forecast;", true), ("TemperDowns", "plans", "LTemperDowns$Plans;", true), ("TemperDowns", "putting", "LTemperDowns$PutBy;", true), ("TemperDowns", "guess", "LTemperDowns$Guess;", true), ("TemperDowns", "chance", "LTemperDowns$Chance;", true)]),
  ("TemperDownsModel", [("TemperDownsModel", "thrown", "I", false), ("TemperDownsModel", "wide", "I", false), ("TemperDownsModel", "tall", "I", false), ("TemperDownsModel", "people", "I", false), ("TemperDownsModel", "balls", "I", false), ("TemperDownsModel", "risesAt", "I", false), ("TemperDownsModel", "burstsAt", "I", false), ("TemperDownsModel", "home", "[I", true), ("TemperDownsModel", "size", "[I", true), ("TemperDownsModel", "code", "[I", true), ("TemperDownsModel", "tape", "[I", true), ("TemperDownsModel", "taped", "I", false), ("TemperDownsModel", "faultKind", "I", false), ("TemperDownsModel", "faultPlace", "I", false), ("TemperDownsModel", "refused", "[I", true), ("TemperDownsModel", "long1", "I", false), ("TemperDownsModel", "next0", "I", false), ("TemperDownsModel", "sort", "I", false), ("TemperDownsModel", "place", "I", false), ("TemperDownsModel", "long0", "I", false), ("TemperDownsModel", "value", "I", false), ("TemperDownsModel", "sign", "I", false), ("TemperDownsModel", "word", "J", false), ("TemperDownsModel", "newWide", "I", false), ("TemperDownsModel", "newTall", "I", false), ("TemperDownsModel", "newPeople", "I", false), ("TemperDownsModel", "newBalls", "I", false), ("TemperDownsModel", "newRisesAt", "I", false), ("TemperDownsModel", "newBurstsAt", "I", false), ("TemperDownsModel", "top", "I", false), ("TemperDownsModel", "firstValue", "I", false), ("TemperDownsModel", "lastValue", "I", false), ("TemperDownsModel", "waiting", "I", false), ("TemperDownsModel", "depth", "I", false), ("TemperDownsModel", "newHome", "[I", true), ("TemperDownsModel", "newSize", "[I", true), ("TemperDownsModel", "newRow", "[I", true), ("TemperDownsModel", "readCode", "[I", true), ("TemperDownsModel", "waits", "[I", true), ("TemperDownsModel", "tested", "[Z", true), ("TemperDownsModel", "rows", "[I", true), ("TemperDownsModel", "kept0", "[I", true), ("TemperDownsModel", "acts", "I", false), ("TemperDownsModel", "told", "[I", true), ("TemperDownsModel", "pile", "[I", true), ("TemperDownsModel", "offOnes", "I", false), ("TemperDownsModel", "offMany", "I", false), ("TemperDownsModel", "wentOnes", "I", false), ("TemperDownsModel", "shoutedOnes", "I", false), ("TemperDownsModel", "far", "[I", true), ("TemperDownsModel", "queue", "[I", true), ("TemperDownsModel", "least", "[I", true), ("TemperDownsModel", "taking", "[I", true), ("TemperDownsModel", "seenMany", "I", false), ("TemperDownsModel", "seen", "[I", true), ("TemperDownsModel", "soon", "[I", true), ("TemperDownsModel", "soonAll", "[I", true), ("TemperDownsModel", "its0", "I", false), ("TemperDownsModel", "hasImage", "Z", false), ("TemperDownsModel", "imageActs", "I", false), ("TemperDownsModel", "imageSeen", "I", false), ("TemperDownsModel", "imageRow", "[I", true), ("TemperDownsModel", "imageKept", "[I", true), ("TemperDownsModel", "imageSees", "[I", true)])]
def zTy : List (List FieldType) := [[.object "TemperDowns$Scene", .int, .array .int, .int, .array .int, .array .int, .array .int],
  [.int, .int, .int, .object "TemperDowns$Downs", .object "TemperDowns$Land", .object "TemperDowns$Scene", .object "TemperDowns$Scene", .array .int, .array .int, .int],
  [.object "TemperDowns$Land", .array .int, .array .int, .array .int, .array .int],
  [.object "TemperDowns$Downs", .object "TemperDowns$Scene", .object "TemperDowns$Scene"],
  [.int, .int, .object "TemperDowns$Downs", .object "TemperDowns$Land", .object "TemperDowns$Book", .object "TemperDowns$Scene", .object "TemperDowns$Scene", .array .int],
  [.int, .int, .int, .int, .int, .array .int, .array .int, .object "TemperDowns$Rule", .object "TemperDowns$Rule", .array .int, .array .int],
  [.object "TemperDowns$Downs", .object "TemperDowns$Land", .object "TemperDowns$Scene", .array .int, .array .int, .array .int],
  [.int, .int, .array .int, .object "TemperDowns$Land", .object "TemperDowns$Scene", .array .int, .array .int],
  [.object "TemperDowns$Land", .object "TemperDowns$Scene", .int, .int, .array .int, .int, .int, .int, .int, .int, .boolean, .int, .object "TemperDowns$Rule", .boolean],
  [.array .int, .int],
  [.array .int],
  [.array .int, .int, .int, .array .int, .object "TemperDowns$Land", .object "TemperDowns$Reader", .object "TemperDowns$Book", .object "TemperDowns$Book", .boolean, .object "TemperDowns$Scene", .object "TemperDowns$Downs", .object "TemperDowns$Forecast", .object "TemperDowns$Plans", .object "TemperDowns$PutBy", .object "TemperDowns$Guess", .object "TemperDowns$Chance"],
  [.int, .int, .int, .int, .int, .int, .int, .array .int, .array .int, .array .int, .array .int, .int, .int, .int, .array .int, .int, .int, .int, .int, .int, .int, .int, .long, .int, .int, .int, .int, .int, .int, .int, .int, .int, .int, .int, .array .int, .array .int, .array .int, .array .int, .array .int, .array .boolean, .array .int, .array .int, .int, .array .int, .array .int, .int, .int, .int, .int, .array .int, .array .int, .array .int, .array .int, .int, .array .int, .array .int, .array .int, .int, .boolean, .int, .int, .array .int, .array .int, .array .int]]
def zCd : List (List Value) := [[.null, .int 0, .null, .int 0, .null, .null, .null],
  [.int 0, .int 0, .int 0, .null, .null, .null, .null, .null, .null, .int 0],
  [.null, .null, .null, .null, .null],
  [.null, .null, .null],
  [.int 0, .int 0, .null, .null, .null, .null, .null, .null],
  [.int 0, .int 0, .int 0, .int 0, .int 0, .null, .null, .null, .null, .null, .null],
  [.null, .null, .null, .null, .null, .null],
  [.int 0, .int 0, .null, .null, .null, .null, .null],
  [.null, .null, .int 0, .int 0, .null, .int 0, .int 0, .int 0, .int 0, .int 0, .int 0, .int 0, .null, .int 0],
  [.null, .int 0],
  [.null],
  [.null, .int 0, .int 0, .null, .null, .null, .null, .null, .int 0, .null, .null, .null, .null, .null, .null, .null],
  [.int 0, .int 0, .int 0, .int 0, .int 0, .int 0, .int 0, .null, .null, .null, .null, .int 0, .int 0, .int 0, .null, .int 0, .int 0, .int 0, .int 0, .int 0, .int 0, .int 0, .long 0, .int 0, .int 0, .int 0, .int 0, .int 0, .int 0, .int 0, .int 0, .int 0, .int 0, .int 0, .null, .null, .null, .null, .null, .null, .null, .null, .int 0, .null, .null, .int 0, .int 0, .int 0, .int 0, .null, .null, .null, .null, .int 0, .null, .null, .null, .int 0, .int 0, .int 0, .int 0, .null, .null, .null]]
/-- where the words of the fields stand -/
def zUp : List (List Nat) := [[1224, 1226, 1228, 1230, 1232, 1234, 1236],
  [2156, 2158, 2160, 2162, 2164, 2166, 2168, 2170, 2172, 2174],
  [2015, 2017, 2019, 2021, 2023],
  [2037, 2039, 2041],
  [2118, 2120, 2122, 2124, 2126, 2128, 2130, 2132],
  [1109, 1111, 1113, 1115, 1117, 1119, 1121, 1123, 1125, 1127, 1129],
  [2056, 2058, 2060, 2062, 2064, 2066],
  [2085, 2087, 2089, 2091, 2093, 2095, 2097],
  [1168, 1170, 1172, 1174, 1176, 1178, 1180, 1182, 1184, 1186, 1188, 1190, 1192, 1194],
  [1049, 1051],
  [1148],
  [2193, 2195, 2197, 2199, 2201, 2203, 2205, 2207, 2209, 2211, 2213, 2215, 2217, 2219, 2221, 2223],
  [7144, 7146, 7148, 7150, 7152, 7154, 7156, 7158, 7160, 7162, 7164, 7166, 7168, 7170, 7172, 7174, 7176, 7178, 7180, 7182, 7184, 7186, 7188, 7190, 7192, 7194, 7196, 7198, 7200, 7202, 7204, 7206, 7208, 7210, 7212, 7214, 7216, 7218, 7220, 7222, 7224, 7226, 7228, 7230, 7232, 7234, 7236, 7238, 8000, 8002, 8004, 8006, 8008, 8010, 8012, 8014, 8016, 8018, 8020, 8022, 8024, 8026, 8028, 8030]]
/-- TemperDowns$Book.<init>()V -/
noncomputable def zk0 : List (Nat × zJ) := [
  (0, 1, .aload_n 0, 0, 0, 0), (1, 19, .invokespecial 1, 0, 0, 0), (4, 1, .aload_n 0, 0, 0, 0), (5, 10, .new 7, 10, 0, 0), (8, 0, .dup, 0, 0, 0), 
  (9, 12, .invokespecial 9, 115, 1, 99), (12, 6, .putfield 10, 0, 0, 3), (15, 1, .aload_n 0, 0, 0, 0), (16, 0, .sipush 2800, 0, 0, 0), 
  (19, 11, .newarray .int, 0, 0, 0), (21, 6, .putfield 16, 0, 2, 3), (24, 1, .aload_n 0, 0, 0, 0), (25, 0, .bipush 8, 0, 0, 0), 
  (27, 11, .newarray .int, 0, 0, 0), (29, 6, .putfield 20, 0, 4, 3), (32, 1, .aload_n 0, 0, 0, 0), (33, 0, .bipush 8, 0, 0, 0), 
  (35, 11, .newarray .int, 0, 0, 0), (37, 6, .putfield 23, 0, 5, 3), (40, 1, .aload_n 0, 0, 0, 0), (41, 0, .bipush 8, 0, 0, 0), 
  (43, 11, .newarray .int, 0, 0, 0), (45, 6, .putfield 26, 0, 6, 3), (48, 1, .aload_n 0, 0, 0, 0), (49, 5, .getfield 10, 0, 0, 0), 
  (52, 12, .invokevirtual 29, 116, 1, 11), (55, 13, .return_, 0, 0, 0)]
/-- TemperDowns$Book.keepAct()V -/
noncomputable def zk1 : List (Nat × zJ) := [
  (0, 1, .aload_n 0, 0, 0, 0), (1, 5, .getfield 36, 0, 1, 0), (4, 0, .bipush 40, 0, 0, 0), (6, 3, .if_icmp .lt 30, 36, 0, 0), 
  (9, 1, .aload_n 0, 0, 0, 0), (10, 0, .bipush 39, 0, 0, 0), (12, 6, .putfield 36, 0, 1, 0), (15, 1, .aload_n 0, 0, 0, 0), 
  (16, 5, .getfield 16, 0, 2, 0), (19, 0, .bipush 70, 0, 0, 0), (21, 1, .aload_n 0, 0, 0, 0), (22, 5, .getfield 16, 0, 2, 0), 
  (25, 0, .iconst 0, 0, 0, 0), (26, 1, .aload_n 0, 0, 0, 0), (27, 5, .getfield 36, 0, 1, 0), (30, 0, .bipush 70, 0, 0, 0), (32, 0, .imul, 0, 0, 0), 
  (33, 15, .invokestatic 43, 0, 0, 0), (36, 1, .aload_n 0, 0, 0, 0), (37, 5, .getfield 10, 0, 0, 0), (40, 5, .getfield 49, 10, 0, 0), 
  (43, 0, .iconst 0, 0, 0, 0), (44, 1, .aload_n 0, 0, 0, 0), (45, 5, .getfield 16, 0, 2, 0), (48, 1, .aload_n 0, 0, 0, 0), 
  (49, 5, .getfield 36, 0, 1, 0), (52, 0, .bipush 70, 0, 0, 0), (54, 0, .imul, 0, 0, 0), (55, 0, .bipush 70, 0, 0, 0), 
  (57, 15, .invokestatic 43, 0, 0, 0), (60, 1, .aload_n 0, 0, 0, 0), (61, 0, .dup, 0, 0, 0), (62, 5, .getfield 36, 0, 1, 0), 
  (65, 0, .iconst 1, 0, 0, 0), (66, 0, .iadd, 0, 0, 0), (67, 6, .putfield 36, 0, 1, 0), (70, 13, .return_, 0, 0, 0)]
/-- TemperDowns$Book.takeBackAct()V -/
noncomputable def zk2 : List (Nat × zJ) := [
  (0, 1, .aload_n 0, 0, 0, 0), (1, 5, .getfield 36, 0, 1, 0), (4, 3, .ifCond .le 37, 41, 0, 0), (7, 1, .aload_n 0, 0, 0, 0), (8, 0, .dup, 0, 0, 0), 
  (9, 5, .getfield 36, 0, 1, 0), (12, 0, .iconst 1, 0, 0, 0), (13, 0, .isub, 0, 0, 0), (14, 6, .putfield 36, 0, 1, 0), (17, 1, .aload_n 0, 0, 0, 0), 
  (18, 5, .getfield 16, 0, 2, 0), (21, 1, .aload_n 0, 0, 0, 0), (22, 5, .getfield 36, 0, 1, 0), (25, 0, .bipush 70, 0, 0, 0), (27, 0, .imul, 0, 0, 0), 
  (28, 1, .aload_n 0, 0, 0, 0), (29, 5, .getfield 10, 0, 0, 0), (32, 5, .getfield 49, 10, 0, 0), (35, 0, .iconst 0, 0, 0, 0), 
  (36, 0, .bipush 70, 0, 0, 0), (38, 15, .invokestatic 43, 0, 0, 0), (41, 13, .return_, 0, 0, 0)]
/-- TemperDowns$Book.copyFrom(LTemperDowns$Book;)V -/
noncomputable def zk3 : List (Nat × zJ) := [
  (0, 1, .aload_n 0, 0, 0, 0), (1, 5, .getfield 10, 0, 0, 0), (4, 1, .aload_n 1, 0, 0, 0), (5, 5, .getfield 10, 0, 0, 0), 
  (8, 12, .invokevirtual 32, 133, 2, 11), (11, 1, .aload_n 0, 0, 0, 0), (12, 1, .aload_n 1, 0, 0, 0), (13, 5, .getfield 36, 0, 1, 0), 
  (16, 6, .putfield 36, 0, 1, 0), (19, 1, .aload_n 1, 0, 0, 0), (20, 5, .getfield 16, 0, 2, 0), (23, 0, .iconst 0, 0, 0, 0), 
  (24, 1, .aload_n 0, 0, 0, 0), (25, 5, .getfield 16, 0, 2, 0), (28, 0, .iconst 0, 0, 0, 0), (29, 1, .aload_n 0, 0, 0, 0), 
  (30, 5, .getfield 36, 0, 1, 0), (33, 0, .bipush 70, 0, 0, 0), (35, 0, .imul, 0, 0, 0), (36, 15, .invokestatic 43, 0, 0, 0), 
  (39, 1, .aload_n 0, 0, 0, 0), (40, 1, .aload_n 1, 0, 0, 0), (41, 5, .getfield 40, 0, 3, 0), (44, 6, .putfield 40, 0, 3, 0), 
  (47, 1, .aload_n 1, 0, 0, 0), (48, 5, .getfield 20, 0, 4, 0), (51, 0, .iconst 0, 0, 0, 0), (52, 1, .aload_n 0, 0, 0, 0), 
  (53, 5, .getfield 20, 0, 4, 0), (56, 0, .iconst 0, 0, 0, 0), (57, 0, .bipush 8, 0, 0, 0), (59, 15, .invokestatic 43, 0, 0, 0), 
  (62, 1, .aload_n 1, 0, 0, 0), (63, 5, .getfield 23, 0, 5, 0), (66, 0, .iconst 0, 0, 0, 0), (67, 1, .aload_n 0, 0, 0, 0), 
  (68, 5, .getfield 23, 0, 5, 0), (71, 0, .iconst 0, 0, 0, 0), (72, 0, .bipush 8, 0, 0, 0), (74, 15, .invokestatic 43, 0, 0, 0), 
  (77, 1, .aload_n 1, 0, 0, 0), (78, 5, .getfield 26, 0, 6, 0), (81, 0, .iconst 0, 0, 0, 0), (82, 1, .aload_n 0, 0, 0, 0), 
  (83, 5, .getfield 26, 0, 6, 0), (86, 0, .iconst 0, 0, 0, 0), (87, 0, .bipush 8, 0, 0, 0), (89, 15, .invokestatic 43, 0, 0, 0), 
  (92, 13, .return_, 0, 0, 0)]
/-- TemperDowns$Book.begin(LTemperDowns$Scene;)V -/
noncomputable def zk4 : List (Nat × zJ) := [
  (0, 1, .aload_n 0, 0, 0, 0), (1, 5, .getfield 10, 0, 0, 0), (4, 1, .aload_n 1, 0, 0, 0), (5, 12, .invokevirtual 32, 133, 2, 11), 
  (8, 1, .aload_n 0, 0, 0, 0), (9, 0, .iconst 0, 0, 0, 0), (10, 6, .putfield 36, 0, 1, 0), (13, 1, .aload_n 0, 0, 0, 0), (14, 0, .iconst 0, 0, 0, 0), 
  (15, 6, .putfield 40, 0, 3, 0), (18, 13, .return_, 0, 0, 0)]
/-- TemperDowns$Book.addSight(IIZ)V -/
noncomputable def zk5 : List (Nat × zJ) := [
  (0, 1, .aload_n 0, 0, 0, 0), (1, 5, .getfield 40, 0, 3, 0), (4, 0, .bipush 8, 0, 0, 0), (6, 3, .if_icmp .ge 51, 57, 0, 0), 
  (9, 1, .aload_n 0, 0, 0, 0), (10, 5, .getfield 20, 0, 4, 0), (13, 1, .aload_n 0, 0, 0, 0), (14, 5, .getfield 40, 0, 3, 0), 
  (17, 1, .iload_n 1, 0, 0, 0), (18, 8, .iastore, 0, 0, 0), (19, 1, .aload_n 0, 0, 0, 0), (20, 5, .getfield 23, 0, 5, 0), (23, 1, .aload_n 0, 0, 0, 0), 
  (24, 5, .getfield 40, 0, 3, 0), (27, 1, .iload_n 2, 0, 0, 0), (28, 8, .iastore, 0, 0, 0), (29, 1, .aload_n 0, 0, 0, 0), 
  (30, 5, .getfield 26, 0, 6, 0), (33, 1, .aload_n 0, 0, 0, 0), (34, 5, .getfield 40, 0, 3, 0), (37, 1, .iload_n 3, 0, 0, 0), 
  (38, 3, .ifCond .eq 7, 45, 0, 0), (41, 0, .iconst 1, 0, 0, 0), (42, 3, .goto 4, 46, 0, 0), (45, 0, .iconst 0, 0, 0, 0), (46, 8, .iastore, 0, 0, 0), 
  (47, 1, .aload_n 0, 0, 0, 0), (48, 0, .dup, 0, 0, 0), (49, 5, .getfield 40, 0, 3, 0), (52, 0, .iconst 1, 0, 0, 0), (53, 0, .iadd, 0, 0, 0), 
  (54, 6, .putfield 40, 0, 3, 0), (57, 13, .return_, 0, 0, 0)]
/-- TemperDowns$Chance.<init>(LTemperDowns$Downs;LTemperDowns$Scene;)V -/
noncomputable def zk6 : List (Nat × zJ) := [
  (0, 1, .aload_n 0, 0, 0, 0), (1, 19, .invokespecial 3, 0, 0, 0), (4, 1, .aload_n 0, 0, 0, 0), (5, 10, .new 9, 10, 0, 0), (8, 0, .dup, 0, 0, 0), 
  (9, 12, .invokespecial 11, 115, 1, 99), (12, 6, .putfield 12, 1, 6, 3), (15, 1, .aload_n 0, 0, 0, 0), (16, 0, .iconst 4, 0, 0, 0), 
  (17, 11, .newarray .int, 0, 0, 0), (19, 6, .putfield 18, 1, 7, 3), (22, 1, .aload_n 0, 0, 0, 0), (23, 0, .iconst 4, 0, 0, 0), 
  (24, 11, .newarray .int, 0, 0, 0), (26, 6, .putfield 22, 1, 8, 3), (29, 1, .aload_n 0, 0, 0, 0), (30, 1, .aload_n 1, 0, 0, 0), 
  (31, 6, .putfield 25, 1, 3, 3), (34, 1, .aload_n 0, 0, 0, 0), (35, 1, .aload_n 1, 0, 0, 0), (36, 5, .getfield 29, 2, 0, 0), 
  (39, 6, .putfield 35, 1, 4, 3), (42, 1, .aload_n 0, 0, 0, 0), (43, 1, .aload_n 2, 0, 0, 0), (44, 6, .putfield 36, 1, 5, 3), 
  (47, 13, .return_, 0, 0, 0)]
/-- TemperDowns$Chance.whiteByBoys(III)I -/
noncomputable def zk7 : List (Nat × zJ) := [
  (0, 0, .iconst 0, 0, 0, 0), (1, 22, .istore 4, 0, 0, 0), (3, 0, .iconst 0, 0, 0, 0), (4, 22, .istore 5, 0, 0, 0), (6, 1, .iload 5, 0, 0, 0), 
  (8, 0, .iconst 1, 0, 0, 0), (9, 1, .iload_n 2, 0, 0, 0), (10, 0, .ishl, 0, 0, 0), (11, 3, .if_icmp .ge 154, 165, 0, 0), (14, 0, .iconst 1, 0, 0, 0), 
  (15, 22, .istore 6, 0, 0, 0), (17, 1, .aload_n 0, 0, 0, 0), (18, 5, .getfield 12, 1, 6, 0), (21, 1, .aload_n 0, 0, 0, 0), 
  (22, 5, .getfield 36, 1, 5, 0), (25, 12, .invokevirtual 39, 133, 2, 11), (28, 0, .iconst 0, 0, 0, 0), (29, 22, .istore 7, 0, 0, 0), 
  (31, 1, .iload 7, 0, 0, 0), (33, 1, .iload_n 2, 0, 0, 0), (34, 3, .if_icmp .ge 107, 141, 0, 0), (37, 1, .iload 6, 0, 0, 0), 
  (39, 3, .ifCond .le 102, 141, 0, 0), (42, 1, .iload 5, 0, 0, 0), (44, 0, .iconst 1, 0, 0, 0), (45, 1, .iload 7, 0, 0, 0), (47, 0, .ishl, 0, 0, 0), 
  (48, 0, .iand, 0, 0, 0), (49, 3, .ifCond .eq 7, 56, 0, 0), (52, 0, .iconst 1, 0, 0, 0), (53, 3, .goto 4, 57, 0, 0), (56, 0, .iconst 0, 0, 0, 0), 
  (57, 22, .istore 8, 0, 0, 0), (59, 1, .iload 6, 0, 0, 0), (61, 1, .iload 8, 0, 0, 0), (63, 3, .ifCond .eq 7, 70, 0, 0), (66, 1, .iload_n 3, 0, 0, 0), 
  (67, 3, .goto 7, 74, 0, 0), (70, 0, .bipush 10, 0, 0, 0), (72, 1, .iload_n 3, 0, 0, 0), (73, 0, .isub, 0, 0, 0), (74, 0, .imul, 0, 0, 0), 
  (75, 22, .istore 6, 0, 0, 0), (77, 1, .aload_n 0, 0, 0, 0), (78, 5, .getfield 25, 1, 3, 0), (81, 1, .aload_n 0, 0, 0, 0), 
  (82, 5, .getfield 12, 1, 6, 0), (85, 1, .aload_n 0, 0, 0, 0), (86, 5, .getfield 12, 1, 6, 0), (89, 12, .invokevirtual 43, 130, 1, 11), 
  (92, 12, .invokevirtual 47, 38, 3, 3), (95, 22, .istore 9, 0, 0, 0), (97, 1, .iload 8, 0, 0, 0), (99, 3, .ifCond .eq 25, 124, 0, 0), 
  (102, 1, .iload 9, 0, 0, 0), (104, 0, .iconst (-1), 0, 0, 0), (105, 3, .if_icmp .eq 19, 124, 0, 0), (108, 1, .aload_n 0, 0, 0, 0), 
  (109, 5, .getfield 25, 1, 3, 0), (112, 1, .aload_n 0, 0, 0, 0), (113, 5, .getfield 12, 1, 6, 0), (116, 0, .iconst 1, 0, 0, 0), 
  (117, 1, .iload 9, 0, 0, 0), (119, 0, .ishl, 0, 0, 0), (120, 12, .invokevirtual 51, 27, 3, 3), (123, 0, .pop, 0, 0, 0), 
  (124, 1, .aload_n 0, 0, 0, 0), (125, 5, .getfield 25, 1, 3, 0), (128, 1, .aload_n 0, 0, 0, 0), (129, 5, .getfield 12, 1, 6, 0), 
  (132, 12, .invokevirtual 54, 18, 2, 3), (135, 22, .iinc 7 1, 0, 0, 0), (138, 3, .goto (-107), 31, 0, 0), (141, 1, .aload_n 0, 0, 0, 0), 
  (142, 5, .getfield 12, 1, 6, 0), (145, 1, .iload_n 1, 0, 0, 0), (146, 12, .invokevirtual 57, 123, 2, 11), (149, 3, .ifCond .eq 10, 159, 0, 0), 
  (152, 1, .iload 4, 0, 0, 0), (154, 1, .iload 6, 0, 0, 0), (156, 0, .iadd, 0, 0, 0), (157, 22, .istore 4, 0, 0, 0), (159, 22, .iinc 5 1, 0, 0, 0), 
  (162, 3, .goto (-156), 6, 0, 0), (165, 1, .iload 4, 0, 0, 0), (167, 13, .ireturn, 0, 0, 0)]
/-- TemperDowns$Chance.play(II)V -/
noncomputable def zk8 : List (Nat × zJ) := [
  (0, 0, .iconst 0, 0, 0, 0), (1, 22, .istore_n 3, 0, 0, 0), (2, 1, .iload_n 3, 0, 0, 0), (3, 0, .iconst 4, 0, 0, 0), 
  (4, 3, .if_icmp .ge 125, 129, 0, 0), (7, 1, .iload_n 3, 0, 0, 0), (8, 0, .iconst 1, 0, 0, 0), (9, 0, .ishr, 0, 0, 0), (10, 22, .istore 4, 0, 0, 0), 
  (12, 1, .iload_n 3, 0, 0, 0), (13, 0, .iconst 1, 0, 0, 0), (14, 0, .iand, 0, 0, 0), (15, 22, .istore 5, 0, 0, 0), (17, 1, .aload_n 0, 0, 0, 0), 
  (18, 5, .getfield 12, 1, 6, 0), (21, 1, .aload_n 0, 0, 0, 0), (22, 5, .getfield 36, 1, 5, 0), (25, 12, .invokevirtual 39, 133, 2, 11), 
  (28, 1, .iload_n 1, 0, 0, 0), (29, 1, .iload_n 2, 0, 0, 0), (30, 3, .if_icmp .ge 20, 50, 0, 0), (33, 1, .aload_n 0, 0, 0, 0), 
  (34, 1, .iload_n 1, 0, 0, 0), (35, 1, .iload 4, 0, 0, 0), (37, 12, .invokevirtual 61, 9, 3, 2), (40, 1, .aload_n 0, 0, 0, 0), 
  (41, 1, .iload_n 2, 0, 0, 0), (42, 1, .iload 5, 0, 0, 0), (44, 12, .invokevirtual 61, 9, 3, 2), (47, 3, .goto 17, 64, 0, 0), 
  (50, 1, .aload_n 0, 0, 0, 0), (51, 1, .iload_n 2, 0, 0, 0), (52, 1, .iload 5, 0, 0, 0), (54, 12, .invokevirtual 61, 9, 3, 2), 
  (57, 1, .aload_n 0, 0, 0, 0), (58, 1, .iload_n 1, 0, 0, 0), (59, 1, .iload 4, 0, 0, 0), (61, 12, .invokevirtual 61, 9, 3, 2), 
  (64, 0, .iconst 0, 0, 0, 0), (65, 22, .istore 6, 0, 0, 0), (67, 1, .iload 6, 0, 0, 0), (69, 0, .bipush 10, 0, 0, 0), 
  (71, 3, .if_icmp .ge 20, 91, 0, 0), (74, 1, .aload_n 0, 0, 0, 0), (75, 5, .getfield 25, 1, 3, 0), (78, 1, .aload_n 0, 0, 0, 0), 
  (79, 5, .getfield 12, 1, 6, 0), (82, 12, .invokevirtual 54, 18, 2, 3), (85, 22, .iinc 6 1, 0, 0, 0), (88, 3, .goto (-21), 67, 0, 0), 
  (91, 1, .aload_n 0, 0, 0, 0), (92, 5, .getfield 18, 1, 7, 0), (95, 1, .iload_n 3, 0, 0, 0), (96, 1, .aload_n 0, 0, 0, 0), 
  (97, 1, .iload_n 1, 0, 0, 0), (98, 12, .invokevirtual 65, 10, 2, 2), (101, 0, .iconst 2, 0, 0, 0), (102, 1, .iload 4, 0, 0, 0), 
  (104, 0, .imul, 0, 0, 0), (105, 0, .iadd, 0, 0, 0), (106, 8, .iastore, 0, 0, 0), (107, 1, .aload_n 0, 0, 0, 0), (108, 5, .getfield 22, 1, 8, 0), 
  (111, 1, .iload_n 3, 0, 0, 0), (112, 1, .aload_n 0, 0, 0, 0), (113, 1, .iload_n 2, 0, 0, 0), (114, 12, .invokevirtual 65, 10, 2, 2), 
  (117, 0, .iconst 2, 0, 0, 0), (118, 1, .iload 5, 0, 0, 0), (120, 0, .imul, 0, 0, 0), (121, 0, .iadd, 0, 0, 0), (122, 8, .iastore, 0, 0, 0), 
  (123, 22, .iinc 3 1, 0, 0, 0), (126, 3, .goto (-124), 2, 0, 0), (129, 13, .return_, 0, 0, 0)]
/-- TemperDowns$Chance.choose(II)V -/
noncomputable def zk9 : List (Nat × zJ) := [
  (0, 1, .iload_n 2, 0, 0, 0), (1, 0, .iconst 1, 0, 0, 0), (2, 3, .if_icmp .ne 16, 18, 0, 0), (5, 1, .aload_n 0, 0, 0, 0), 
  (6, 5, .getfield 25, 1, 3, 0), (9, 1, .aload_n 0, 0, 0, 0), (10, 5, .getfield 12, 1, 6, 0), (13, 1, .iload_n 1, 0, 0, 0), 
  (14, 12, .invokevirtual 69, 21, 3, 3), (17, 0, .pop, 0, 0, 0), (18, 13, .return_, 0, 0, 0)]
/-- TemperDowns$Chance.lossOf(I)I -/
noncomputable def zk10 : List (Nat × zJ) := [
  (0, 0, .iconst 4, 0, 0, 0), (1, 1, .aload_n 0, 0, 0, 0), (2, 5, .getfield 12, 1, 6, 0), (5, 1, .iload_n 1, 0, 0, 0), 
  (6, 12, .invokevirtual 73, 120, 2, 11), (9, 1, .aload_n 0, 0, 0, 0), (10, 5, .getfield 36, 1, 5, 0), (13, 1, .iload_n 1, 0, 0, 0), 
  (14, 12, .invokevirtual 73, 120, 2, 11), (17, 0, .isub, 0, 0, 0), (18, 0, .imul, 0, 0, 0), (19, 1, .aload_n 0, 0, 0, 0), 
  (20, 5, .getfield 12, 1, 6, 0), (23, 1, .iload_n 1, 0, 0, 0), (24, 12, .invokevirtual 76, 121, 2, 11), (27, 0, .iadd, 0, 0, 0), 
  (28, 1, .aload_n 0, 0, 0, 0), (29, 5, .getfield 36, 1, 5, 0), (32, 1, .iload_n 1, 0, 0, 0), (33, 12, .invokevirtual 76, 121, 2, 11), 
  (36, 0, .isub, 0, 0, 0), (37, 13, .ireturn, 0, 0, 0)]
/-- TemperDowns$Chance.resting()I -/
noncomputable def zk11 : List (Nat × zJ) := [
  (0, 0, .iconst 0, 0, 0, 0), (1, 22, .istore_n 1, 0, 0, 0), (2, 0, .iconst 0, 0, 0, 0), (3, 22, .istore_n 2, 0, 0, 0), (4, 1, .iload_n 2, 0, 0, 0), 
  (5, 0, .iconst 4, 0, 0, 0), (6, 3, .if_icmp .ge 20, 26, 0, 0), (9, 1, .aload_n 0, 0, 0, 0), (10, 1, .iload_n 2, 0, 0, 0), 
  (11, 12, .invokevirtual 79, 12, 2, 2), (14, 3, .ifCond .eq 6, 20, 0, 0), (17, 22, .iinc 1 1, 0, 0, 0), (20, 22, .iinc 2 1, 0, 0, 0), 
  (23, 3, .goto (-19), 4, 0, 0), (26, 1, .iload_n 1, 0, 0, 0), (27, 13, .ireturn, 0, 0, 0)]
/-- TemperDowns$Chance.rests(I)Z -/
noncomputable def zk12 : List (Nat × zJ) := [
  (0, 1, .aload_n 0, 0, 0, 0), (1, 5, .getfield 18, 1, 7, 0), (4, 1, .iload_n 1, 0, 0, 0), (5, 7, .iaload, 0, 0, 0), (6, 1, .aload_n 0, 0, 0, 0), 
  (7, 5, .getfield 18, 1, 7, 0), (10, 1, .iload_n 1, 0, 0, 0), (11, 0, .iconst 2, 0, 0, 0), (12, 0, .ixor, 0, 0, 0), (13, 7, .iaload, 0, 0, 0), 
  (14, 3, .if_icmp .gt 24, 38, 0, 0), (17, 1, .aload_n 0, 0, 0, 0), (18, 5, .getfield 22, 1, 8, 0), (21, 1, .iload_n 1, 0, 0, 0), 
  (22, 7, .iaload, 0, 0, 0), (23, 1, .aload_n 0, 0, 0, 0), (24, 5, .getfield 22, 1, 8, 0), (27, 1, .iload_n 1, 0, 0, 0), (28, 0, .iconst 1, 0, 0, 0), 
  (29, 0, .ixor, 0, 0, 0), (30, 7, .iaload, 0, 0, 0), (31, 3, .if_icmp .gt 7, 38, 0, 0), (34, 0, .iconst 1, 0, 0, 0), (35, 3, .goto 4, 39, 0, 0), 
  (38, 0, .iconst 0, 0, 0, 0), (39, 13, .ireturn, 0, 0, 0)]
/-- TemperDowns$Chance.firstResting()I -/
noncomputable def zk13 : List (Nat × zJ) := [
  (0, 0, .iconst 0, 0, 0, 0), (1, 22, .istore_n 1, 0, 0, 0), (2, 1, .iload_n 1, 0, 0, 0), (3, 0, .iconst 4, 0, 0, 0), 
  (4, 3, .if_icmp .ge 28, 32, 0, 0), (7, 1, .aload_n 0, 0, 0, 0), (8, 1, .iload_n 1, 0, 0, 0), (9, 12, .invokevirtual 79, 12, 2, 2), 
  (12, 3, .ifCond .eq 14, 26, 0, 0), (15, 0, .bipush 10, 0, 0, 0), (17, 1, .iload_n 1, 0, 0, 0), (18, 0, .iconst 1, 0, 0, 0), (19, 0, .ishr, 0, 0, 0), 
  (20, 0, .imul, 0, 0, 0), (21, 1, .iload_n 1, 0, 0, 0), (22, 0, .iconst 1, 0, 0, 0), (23, 0, .iand, 0, 0, 0), (24, 0, .iadd, 0, 0, 0), 
  (25, 13, .ireturn, 0, 0, 0), (26, 22, .iinc 1 1, 0, 0, 0), (29, 3, .goto (-27), 2, 0, 0), (32, 0, .iconst (-1), 0, 0, 0), 
  (33, 13, .ireturn, 0, 0, 0)]
/-- TemperDowns$Chance.live(II)V -/
noncomputable def zk14 : List (Nat × zJ) := [
  (0, 1, .aload_n 0, 0, 0, 0), (1, 1, .iload_n 1, 0, 0, 0), (2, 6, .putfield 82, 1, 9, 0), (5, 1, .aload_n 0, 0, 0, 0), (6, 5, .getfield 12, 1, 6, 0), 
  (9, 1, .aload_n 0, 0, 0, 0), (10, 5, .getfield 36, 1, 5, 0), (13, 12, .invokevirtual 39, 133, 2, 11), (16, 1, .aload_n 0, 0, 0, 0), 
  (17, 0, .iconst 0, 0, 0, 0), (18, 6, .putfield 86, 1, 0, 0), (21, 1, .aload_n 0, 0, 0, 0), (22, 0, .iconst 0, 0, 0, 0), 
  (23, 6, .putfield 89, 1, 1, 0), (26, 0, .iconst 0, 0, 0, 0), (27, 22, .istore_n 3, 0, 0, 0), (28, 1, .iload_n 3, 0, 0, 0), 
  (29, 1, .iload_n 2, 0, 0, 0), (30, 3, .if_icmp .ge 135, 165, 0, 0), (33, 1, .aload_n 0, 0, 0, 0), (34, 0, .iconst 5, 0, 0, 0), 
  (35, 12, .invokevirtual 92, 15, 2, 2), (38, 22, .istore 4, 0, 0, 0), (40, 1, .iload 4, 0, 0, 0), (42, 3, .ifCond .ne 20, 62, 0, 0), 
  (45, 1, .aload_n 0, 0, 0, 0), (46, 5, .getfield 35, 1, 4, 0), (49, 5, .getfield 95, 5, 4, 0), (52, 3, .ifCond .le 10, 62, 0, 0), 
  (55, 1, .aload_n 0, 0, 0, 0), (56, 12, .invokevirtual 100, 16, 1, 2), (59, 3, .goto 47, 106, 0, 0), (62, 1, .iload 4, 0, 0, 0), 
  (64, 0, .iconst 1, 0, 0, 0), (65, 3, .if_icmp .ne 41, 106, 0, 0), (68, 1, .aload_n 0, 0, 0, 0), (69, 5, .getfield 35, 1, 4, 0), 
  (72, 5, .getfield 103, 5, 3, 0), (75, 3, .ifCond .le 31, 106, 0, 0), (78, 1, .aload_n 0, 0, 0, 0), (79, 1, .aload_n 0, 0, 0, 0), 
  (80, 5, .getfield 35, 1, 4, 0), (83, 5, .getfield 103, 5, 3, 0), (86, 12, .invokevirtual 92, 15, 2, 2), (89, 22, .istore 5, 0, 0, 0), 
  (91, 1, .aload_n 0, 0, 0, 0), (92, 5, .getfield 12, 1, 6, 0), (95, 1, .iload 5, 0, 0, 0), (97, 1, .aload_n 0, 0, 0, 0), (98, 0, .bipush 60, 0, 0, 0), 
  (100, 12, .invokevirtual 92, 15, 2, 2), (103, 12, .invokevirtual 106, 122, 3, 11), (106, 1, .aload_n 0, 0, 0, 0), (107, 5, .getfield 25, 1, 3, 0), 
  (110, 1, .aload_n 0, 0, 0, 0), (111, 5, .getfield 12, 1, 6, 0), (114, 12, .invokevirtual 54, 18, 2, 3), (117, 1, .aload_n 0, 0, 0, 0), 
  (118, 0, .dup, 0, 0, 0), (119, 5, .getfield 86, 1, 0, 0), (122, 1, .aload_n 0, 0, 0, 0), (123, 5, .getfield 25, 1, 3, 0), 
  (126, 5, .getfield 109, 2, 1, 0), (129, 0, .iconst 0, 0, 0, 0), (130, 7, .iaload, 0, 0, 0), (131, 12, .invokestatic 112, 332, 1, 0), 
  (134, 0, .iadd, 0, 0, 0), (135, 6, .putfield 86, 1, 0, 0), (138, 1, .aload_n 0, 0, 0, 0), (139, 0, .dup, 0, 0, 0), (140, 5, .getfield 89, 1, 1, 0), 
  (143, 1, .aload_n 0, 0, 0, 0), (144, 5, .getfield 25, 1, 3, 0), (147, 5, .getfield 109, 2, 1, 0), (150, 0, .iconst 2, 0, 0, 0), 
  (151, 7, .iaload, 0, 0, 0), (152, 12, .invokestatic 112, 332, 1, 0), (155, 0, .iadd, 0, 0, 0), (156, 6, .putfield 89, 1, 1, 0), 
  (159, 22, .iinc 3 1, 0, 0, 0), (162, 3, .goto (-134), 28, 0, 0), (165, 1, .aload_n 0, 0, 0, 0), (166, 1, .aload_n 0, 0, 0, 0), 
  (167, 5, .getfield 25, 1, 3, 0), (170, 1, .aload_n 0, 0, 0, 0), (171, 5, .getfield 12, 1, 6, 0), (174, 12, .invokevirtual 117, 32, 2, 3), 
  (177, 6, .putfield 121, 1, 2, 0), (180, 13, .return_, 0, 0, 0)]
/-- TemperDowns$Chance.draw(I)I -/
noncomputable def zk15 : List (Nat × zJ) := [
  (0, 1, .aload_n 0, 0, 0, 0), (1, 1, .aload_n 0, 0, 0, 0), (2, 5, .getfield 82, 1, 9, 0), (5, 16, .ldc 127, 1103515245, 0, 0), (7, 0, .imul, 0, 0, 0), 
  (8, 0, .sipush 12345, 0, 0, 0), (11, 0, .iadd, 0, 0, 0), (12, 6, .putfield 82, 1, 9, 0), (15, 1, .iload_n 1, 0, 0, 0), 
  (16, 3, .ifCond .le 19, 35, 0, 0), (19, 1, .aload_n 0, 0, 0, 0), (20, 5, .getfield 82, 1, 9, 0), (23, 0, .bipush 16, 0, 0, 0), 
  (25, 0, .iushr, 0, 0, 0), (26, 0, .sipush 32767, 0, 0, 0), (29, 0, .iand, 0, 0, 0), (30, 1, .iload_n 1, 0, 0, 0), (31, 0, .irem, 0, 0, 0), 
  (32, 3, .goto 4, 36, 0, 0), (35, 0, .iconst 0, 0, 0, 0), (36, 13, .ireturn, 0, 0, 0)]
/-- TemperDowns$Chance.treadDrawn()V -/
noncomputable def zk16 : List (Nat × zJ) := [
  (0, 1, .aload_n 0, 0, 0, 0), (1, 1, .aload_n 0, 0, 0, 0), (2, 5, .getfield 35, 1, 4, 0), (5, 5, .getfield 95, 5, 4, 0), 
  (8, 12, .invokevirtual 92, 15, 2, 2), (11, 22, .istore_n 1, 0, 0, 0), (12, 1, .aload_n 0, 0, 0, 0), (13, 5, .getfield 12, 1, 6, 0), 
  (16, 1, .iload_n 1, 0, 0, 0), (17, 12, .invokevirtual 124, 136, 2, 11), (20, 3, .ifCond .eq 29, 49, 0, 0), (23, 1, .aload_n 0, 0, 0, 0), 
  (24, 0, .dup, 0, 0, 0), (25, 5, .getfield 86, 1, 0, 0), (28, 1, .aload_n 0, 0, 0, 0), (29, 5, .getfield 25, 1, 3, 0), (32, 1, .aload_n 0, 0, 0, 0), 
  (33, 5, .getfield 12, 1, 6, 0), (36, 0, .iconst 1, 0, 0, 0), (37, 1, .iload_n 1, 0, 0, 0), (38, 0, .ishl, 0, 0, 0), 
  (39, 12, .invokevirtual 51, 27, 3, 3), (42, 12, .invokestatic 112, 332, 1, 0), (45, 0, .iadd, 0, 0, 0), (46, 6, .putfield 86, 1, 0, 0), 
  (49, 13, .return_, 0, 0, 0)]
/-- TemperDowns$Downs.<init>(LTemperDowns$Land;)V -/
noncomputable def zk17 : List (Nat × zJ) := [
  (0, 1, .aload_n 0, 0, 0, 0), (1, 19, .invokespecial 3, 0, 0, 0), (4, 1, .aload_n 0, 0, 0, 0), (5, 0, .iconst 3, 0, 0, 0), 
  (6, 11, .newarray .int, 0, 0, 0), (8, 6, .putfield 9, 2, 1, 3), (11, 1, .aload_n 0, 0, 0, 0), (12, 0, .bipush 10, 0, 0, 0), 
  (14, 11, .newarray .int, 0, 0, 0), (16, 6, .putfield 15, 2, 2, 3), (19, 1, .aload_n 0, 0, 0, 0), (20, 0, .iconst 5, 0, 0, 0), 
  (21, 11, .newarray .int, 0, 0, 0), (23, 6, .putfield 20, 2, 3, 3), (26, 1, .aload_n 0, 0, 0, 0), (27, 0, .bipush 40, 0, 0, 0), 
  (29, 11, .newarray .int, 0, 0, 0), (31, 6, .putfield 23, 2, 4, 3), (34, 1, .aload_n 0, 0, 0, 0), (35, 1, .aload_n 1, 0, 0, 0), 
  (36, 6, .putfield 26, 2, 0, 3), (39, 13, .return_, 0, 0, 0)]
/-- TemperDowns$Downs.passDay(LTemperDowns$Scene;)V -/
noncomputable def zk18 : List (Nat × zJ) := [
  (0, 1, .aload_n 0, 0, 0, 0), (1, 5, .getfield 9, 2, 1, 0), (4, 0, .iconst 1, 0, 0, 0), (5, 0, .iconst 0, 0, 0, 0), (6, 8, .iastore, 0, 0, 0), 
  (7, 1, .aload_n 0, 0, 0, 0), (8, 5, .getfield 9, 2, 1, 0), (11, 0, .iconst 2, 0, 0, 0), (12, 0, .iconst 0, 0, 0, 0), (13, 8, .iastore, 0, 0, 0), 
  (14, 0, .iconst 0, 0, 0, 0), (15, 22, .istore_n 2, 0, 0, 0), (16, 1, .iload_n 2, 0, 0, 0), (17, 1, .aload_n 0, 0, 0, 0), 
  (18, 5, .getfield 26, 2, 0, 0), (21, 5, .getfield 71, 5, 3, 0), (24, 3, .if_icmp .ge 15, 39, 0, 0), (27, 1, .aload_n 0, 0, 0, 0), 
  (28, 1, .aload_n 1, 0, 0, 0), (29, 1, .iload_n 2, 0, 0, 0), (30, 12, .invokevirtual 99, 19, 3, 3), (33, 22, .iinc 2 1, 0, 0, 0), 
  (36, 3, .goto (-20), 16, 0, 0), (39, 0, .iconst 0, 0, 0, 0), (40, 22, .istore_n 2, 0, 0, 0), (41, 1, .iload_n 2, 0, 0, 0), 
  (42, 1, .aload_n 0, 0, 0, 0), (43, 5, .getfield 26, 2, 0, 0), (46, 5, .getfield 45, 5, 4, 0), (49, 3, .if_icmp .ge 22, 71, 0, 0), 
  (52, 1, .aload_n 1, 0, 0, 0), (53, 1, .iload_n 2, 0, 0, 0), (54, 12, .invokevirtual 49, 123, 2, 11), (57, 3, .ifCond .ne 8, 65, 0, 0), 
  (60, 1, .aload_n 1, 0, 0, 0), (61, 1, .iload_n 2, 0, 0, 0), (62, 12, .invokevirtual 103, 127, 2, 11), (65, 22, .iinc 2 1, 0, 0, 0), 
  (68, 3, .goto (-27), 41, 0, 0), (71, 1, .aload_n 0, 0, 0, 0), (72, 5, .getfield 9, 2, 1, 0), (75, 0, .iconst 0, 0, 0, 0), 
  (76, 1, .aload_n 0, 0, 0, 0), (77, 1, .aload_n 1, 0, 0, 0), (78, 1, .aload_n 0, 0, 0, 0), (79, 1, .aload_n 1, 0, 0, 0), 
  (80, 12, .invokevirtual 107, 23, 2, 3), (83, 12, .invokevirtual 111, 27, 3, 3), (86, 8, .iastore, 0, 0, 0), (87, 1, .aload_n 1, 0, 0, 0), 
  (88, 12, .invokevirtual 114, 132, 1, 11), (91, 13, .return_, 0, 0, 0)]
/-- TemperDowns$Downs.livePersonsDay(LTemperDowns$Scene;I)V -/
noncomputable def zk19 : List (Nat × zJ) := [
  (0, 1, .aload_n 1, 0, 0, 0), (1, 1, .iload_n 2, 0, 0, 0), (2, 1, .aload_n 1, 0, 0, 0), (3, 1, .iload_n 2, 0, 0, 0), 
  (4, 12, .invokevirtual 89, 118, 2, 11), (7, 1, .aload_n 0, 0, 0, 0), (8, 1, .aload_n 1, 0, 0, 0), (9, 1, .iload_n 2, 0, 0, 0), 
  (10, 12, .invokevirtual 117, 20, 3, 3), (13, 0, .iadd, 0, 0, 0), (14, 12, .invokevirtual 96, 122, 3, 11), (17, 1, .aload_n 1, 0, 0, 0), 
  (18, 1, .iload_n 2, 0, 0, 0), (19, 12, .invokevirtual 89, 118, 2, 11), (22, 0, .bipush 20, 0, 0, 0), (24, 3, .if_icmp .ge 4, 28, 0, 0), 
  (27, 13, .return_, 0, 0, 0), (28, 1, .aload_n 0, 0, 0, 0), (29, 1, .aload_n 1, 0, 0, 0), (30, 1, .iload_n 2, 0, 0, 0), 
  (31, 12, .invokevirtual 120, 21, 3, 3), (34, 3, .ifCond .eq 18, 52, 0, 0), (37, 1, .aload_n 0, 0, 0, 0), (38, 5, .getfield 9, 2, 1, 0), 
  (41, 0, .iconst 1, 0, 0, 0), (42, 0, .dup2, 0, 0, 0), (43, 7, .iaload, 0, 0, 0), (44, 0, .iconst 1, 0, 0, 0), (45, 1, .iload_n 2, 0, 0, 0), 
  (46, 0, .ishl, 0, 0, 0), (47, 0, .ior, 0, 0, 0), (48, 8, .iastore, 0, 0, 0), (49, 3, .goto 20, 69, 0, 0), (52, 1, .aload_n 1, 0, 0, 0), 
  (53, 1, .iload_n 2, 0, 0, 0), (54, 12, .invokevirtual 124, 126, 2, 11), (57, 1, .aload_n 0, 0, 0, 0), (58, 5, .getfield 9, 2, 1, 0), 
  (61, 0, .iconst 2, 0, 0, 0), (62, 0, .dup2, 0, 0, 0), (63, 7, .iaload, 0, 0, 0), (64, 0, .iconst 1, 0, 0, 0), (65, 1, .iload_n 2, 0, 0, 0), 
  (66, 0, .ishl, 0, 0, 0), (67, 0, .ior, 0, 0, 0), (68, 8, .iastore, 0, 0, 0), (69, 13, .return_, 0, 0, 0)]
/-- TemperDowns$Downs.riseOf(LTemperDowns$Scene;I)I -/
noncomputable def zk20 : List (Nat × zJ) := [
  (0, 1, .aload_n 0, 0, 0, 0), (1, 5, .getfield 26, 2, 0, 0), (4, 5, .getfield 127, 5, 7, 0), (7, 12, .invokevirtual 131, 109, 1, 10), 
  (10, 3, .ifCond .ne 12, 22, 0, 0), (13, 0, .bipush 10, 0, 0, 0), (15, 1, .aload_n 1, 0, 0, 0), (16, 1, .iload_n 2, 0, 0, 0), 
  (17, 12, .invokevirtual 135, 119, 2, 11), (20, 0, .isub, 0, 0, 0), (21, 13, .ireturn, 0, 0, 0), (22, 1, .aload_n 0, 0, 0, 0), 
  (23, 5, .getfield 20, 2, 3, 0), (26, 0, .iconst 0, 0, 0, 0), (27, 1, .aload_n 1, 0, 0, 0), (28, 1, .iload_n 2, 0, 0, 0), 
  (29, 12, .invokevirtual 135, 119, 2, 11), (32, 8, .iastore, 0, 0, 0), (33, 1, .aload_n 0, 0, 0, 0), (34, 5, .getfield 20, 2, 3, 0), 
  (37, 0, .iconst 1, 0, 0, 0), (38, 1, .aload_n 1, 0, 0, 0), (39, 1, .iload_n 2, 0, 0, 0), (40, 12, .invokevirtual 89, 118, 2, 11), 
  (43, 8, .iastore, 0, 0, 0), (44, 1, .aload_n 0, 0, 0, 0), (45, 5, .getfield 20, 2, 3, 0), (48, 0, .iconst 2, 0, 0, 0), (49, 1, .aload_n 1, 0, 0, 0), 
  (50, 1, .iload_n 2, 0, 0, 0), (51, 12, .invokevirtual 138, 120, 2, 11), (54, 8, .iastore, 0, 0, 0), (55, 1, .aload_n 0, 0, 0, 0), 
  (56, 5, .getfield 20, 2, 3, 0), (59, 0, .iconst 3, 0, 0, 0), (60, 1, .aload_n 1, 0, 0, 0), (61, 1, .iload_n 2, 0, 0, 0), 
  (62, 12, .invokevirtual 141, 121, 2, 11), (65, 8, .iastore, 0, 0, 0), (66, 1, .aload_n 0, 0, 0, 0), (67, 5, .getfield 20, 2, 3, 0), 
  (70, 0, .iconst 4, 0, 0, 0), (71, 1, .aload_n 1, 0, 0, 0), (72, 12, .invokevirtual 144, 117, 1, 11), (75, 8, .iastore, 0, 0, 0), 
  (76, 0, .iconst 0, 0, 0, 0), (77, 0, .bipush 20, 0, 0, 0), (79, 1, .aload_n 0, 0, 0, 0), (80, 5, .getfield 26, 2, 0, 0), 
  (83, 5, .getfield 127, 5, 7, 0), (86, 1, .aload_n 0, 0, 0, 0), (87, 5, .getfield 20, 2, 3, 0), (90, 1, .aload_n 0, 0, 0, 0), 
  (91, 5, .getfield 23, 2, 4, 0), (94, 12, .invokevirtual 147, 110, 3, 10), (97, 21, .invokestatic 151, 0, 0, 0), 
  (100, 21, .invokestatic 156, 1, 0, 0), (103, 13, .ireturn, 0, 0, 0)]
/-- TemperDowns$Downs.goOut(LTemperDowns$Scene;I)Z -/
noncomputable def zk21 : List (Nat × zJ) := [
  (0, 1, .aload_n 0, 0, 0, 0), (1, 1, .aload_n 1, 0, 0, 0), (2, 1, .iload_n 2, 0, 0, 0), (3, 12, .invokevirtual 92, 22, 3, 3), 
  (6, 22, .istore_n 3, 0, 0, 0), (7, 1, .iload_n 3, 0, 0, 0), (8, 0, .iconst (-1), 0, 0, 0), (9, 3, .if_icmp .ne 5, 14, 0, 0), 
  (12, 0, .iconst 0, 0, 0, 0), (13, 13, .ireturn, 0, 0, 0), (14, 1, .aload_n 1, 0, 0, 0), (15, 1, .iload_n 3, 0, 0, 0), (16, 1, .aload_n 1, 0, 0, 0), 
  (17, 1, .iload_n 2, 0, 0, 0), (18, 12, .invokevirtual 89, 118, 2, 11), (21, 1, .iload_n 2, 0, 0, 0), (22, 12, .invokevirtual 82, 125, 4, 11), 
  (25, 1, .aload_n 1, 0, 0, 0), (26, 1, .iload_n 2, 0, 0, 0), (27, 0, .iconst 0, 0, 0, 0), (28, 12, .invokevirtual 96, 122, 3, 11), 
  (31, 0, .iconst 1, 0, 0, 0), (32, 13, .ireturn, 0, 0, 0)]
/-- TemperDowns$Downs.nearestWhite(LTemperDowns$Scene;I)I -/
noncomputable def zk22 : List (Nat × zJ) := [
  (0, 0, .iconst (-1), 0, 0, 0), (1, 22, .istore_n 3, 0, 0, 0), (2, 0, .iconst 0, 0, 0, 0), (3, 22, .istore 4, 0, 0, 0), (5, 0, .iconst 0, 0, 0, 0), 
  (6, 22, .istore 5, 0, 0, 0), (8, 1, .iload 5, 0, 0, 0), (10, 1, .aload_n 0, 0, 0, 0), (11, 5, .getfield 26, 2, 0, 0), (14, 5, .getfield 45, 5, 4, 0), 
  (17, 3, .if_icmp .ge 79, 96, 0, 0), (20, 1, .aload_n 1, 0, 0, 0), (21, 1, .iload 5, 0, 0, 0), (23, 12, .invokevirtual 49, 123, 2, 11), 
  (26, 3, .ifCond .eq 64, 90, 0, 0), (29, 1, .aload_n 0, 0, 0, 0), (30, 5, .getfield 26, 2, 0, 0), (33, 5, .getfield 86, 5, 6, 0), 
  (36, 1, .iload 5, 0, 0, 0), (38, 7, .iaload, 0, 0, 0), (39, 1, .aload_n 1, 0, 0, 0), (40, 1, .iload_n 2, 0, 0, 0), 
  (41, 12, .invokevirtual 89, 118, 2, 11), (44, 3, .if_icmp .lt 46, 90, 0, 0), (47, 1, .aload_n 0, 0, 0, 0), (48, 5, .getfield 26, 2, 0, 0), 
  (51, 1, .aload_n 1, 0, 0, 0), (52, 1, .iload 5, 0, 0, 0), (54, 12, .invokevirtual 30, 124, 2, 11), (57, 1, .aload_n 0, 0, 0, 0), 
  (58, 5, .getfield 26, 2, 0, 0), (61, 5, .getfield 68, 5, 5, 0), (64, 1, .iload_n 2, 0, 0, 0), (65, 7, .iaload, 0, 0, 0), 
  (66, 12, .invokevirtual 36, 60, 3, 6), (69, 22, .istore 6, 0, 0, 0), (71, 1, .iload_n 3, 0, 0, 0), (72, 0, .iconst (-1), 0, 0, 0), 
  (73, 3, .if_icmp .eq 10, 83, 0, 0), (76, 1, .iload 6, 0, 0, 0), (78, 1, .iload 4, 0, 0, 0), (80, 3, .if_icmp .ge 10, 90, 0, 0), 
  (83, 1, .iload 5, 0, 0, 0), (85, 22, .istore_n 3, 0, 0, 0), (86, 1, .iload 6, 0, 0, 0), (88, 22, .istore 4, 0, 0, 0), (90, 22, .iinc 5 1, 0, 0, 0), 
  (93, 3, .goto (-85), 8, 0, 0), (96, 1, .iload_n 3, 0, 0, 0), (97, 13, .ireturn, 0, 0, 0)]
/-- TemperDowns$Downs.ripe(LTemperDowns$Scene;)I -/
noncomputable def zk23 : List (Nat × zJ) := [
  (0, 0, .iconst 0, 0, 0, 0), (1, 22, .istore_n 2, 0, 0, 0), (2, 1, .aload_n 0, 0, 0, 0), (3, 5, .getfield 26, 2, 0, 0), 
  (6, 5, .getfield 159, 5, 8, 0), (9, 12, .invokevirtual 131, 109, 1, 10), (12, 3, .ifCond .eq 8, 20, 0, 0), (15, 1, .aload_n 0, 0, 0, 0), 
  (16, 1, .aload_n 1, 0, 0, 0), (17, 12, .invokevirtual 57, 24, 2, 3), (20, 0, .iconst 0, 0, 0, 0), (21, 22, .istore_n 3, 0, 0, 0), 
  (22, 1, .iload_n 3, 0, 0, 0), (23, 1, .aload_n 0, 0, 0, 0), (24, 5, .getfield 26, 2, 0, 0), (27, 5, .getfield 45, 5, 4, 0), 
  (30, 3, .if_icmp .ge 32, 62, 0, 0), (33, 1, .aload_n 1, 0, 0, 0), (34, 1, .iload_n 3, 0, 0, 0), (35, 12, .invokevirtual 49, 123, 2, 11), 
  (38, 3, .ifCond .ne 18, 56, 0, 0), (41, 1, .aload_n 0, 0, 0, 0), (42, 1, .aload_n 1, 0, 0, 0), (43, 1, .iload_n 3, 0, 0, 0), 
  (44, 12, .invokevirtual 162, 26, 3, 3), (47, 3, .ifCond .eq 9, 56, 0, 0), (50, 1, .iload_n 2, 0, 0, 0), (51, 0, .iconst 1, 0, 0, 0), 
  (52, 1, .iload_n 3, 0, 0, 0), (53, 0, .ishl, 0, 0, 0), (54, 0, .ior, 0, 0, 0), (55, 22, .istore_n 2, 0, 0, 0), (56, 22, .iinc 3 1, 0, 0, 0), 
  (59, 3, .goto (-37), 22, 0, 0), (62, 1, .iload_n 2, 0, 0, 0), (63, 13, .ireturn, 0, 0, 0)]
/-- TemperDowns$Downs.link(LTemperDowns$Scene;)V -/
noncomputable def zk24 : List (Nat × zJ) := [
  (0, 0, .iconst 0, 0, 0, 0), (1, 22, .istore_n 2, 0, 0, 0), (2, 1, .iload_n 2, 0, 0, 0), (3, 1, .aload_n 0, 0, 0, 0), (4, 5, .getfield 26, 2, 0, 0), 
  (7, 5, .getfield 45, 5, 4, 0), (10, 3, .if_icmp .ge 82, 92, 0, 0), (13, 1, .aload_n 0, 0, 0, 0), (14, 5, .getfield 15, 2, 2, 0), 
  (17, 1, .iload_n 2, 0, 0, 0), (18, 0, .iconst 0, 0, 0, 0), (19, 8, .iastore, 0, 0, 0), (20, 0, .iconst 0, 0, 0, 0), (21, 22, .istore_n 3, 0, 0, 0), 
  (22, 1, .iload_n 3, 0, 0, 0), (23, 1, .aload_n 0, 0, 0, 0), (24, 5, .getfield 26, 2, 0, 0), (27, 5, .getfield 45, 5, 4, 0), 
  (30, 3, .if_icmp .ge 56, 86, 0, 0), (33, 1, .aload_n 1, 0, 0, 0), (34, 1, .iload_n 2, 0, 0, 0), (35, 12, .invokevirtual 49, 123, 2, 11), 
  (38, 3, .ifCond .ne 48, 86, 0, 0), (41, 1, .iload_n 3, 0, 0, 0), (42, 1, .iload_n 2, 0, 0, 0), (43, 3, .if_icmp .eq 37, 80, 0, 0), 
  (46, 1, .aload_n 1, 0, 0, 0), (47, 1, .iload_n 3, 0, 0, 0), (48, 12, .invokevirtual 49, 123, 2, 11), (51, 3, .ifCond .ne 29, 80, 0, 0), 
  (54, 1, .aload_n 0, 0, 0, 0), (55, 1, .aload_n 1, 0, 0, 0), (56, 1, .iload_n 2, 0, 0, 0), (57, 1, .aload_n 1, 0, 0, 0), (58, 1, .iload_n 3, 0, 0, 0), 
  (59, 12, .invokevirtual 30, 124, 2, 11), (62, 12, .invokevirtual 53, 25, 4, 3), (65, 3, .ifCond .eq 15, 80, 0, 0), (68, 1, .aload_n 0, 0, 0, 0), 
  (69, 5, .getfield 15, 2, 2, 0), (72, 1, .iload_n 2, 0, 0, 0), (73, 0, .dup2, 0, 0, 0), (74, 7, .iaload, 0, 0, 0), (75, 0, .iconst 1, 0, 0, 0), 
  (76, 1, .iload_n 3, 0, 0, 0), (77, 0, .ishl, 0, 0, 0), (78, 0, .ior, 0, 0, 0), (79, 8, .iastore, 0, 0, 0), (80, 22, .iinc 3 1, 0, 0, 0), 
  (83, 3, .goto (-61), 22, 0, 0), (86, 22, .iinc 2 1, 0, 0, 0), (89, 3, .goto (-87), 2, 0, 0), (92, 13, .return_, 0, 0, 0)]
/-- TemperDowns$Downs.reaches(LTemperDowns$Scene;II)Z -/
noncomputable def zk25 : List (Nat × zJ) := [
  (0, 1, .aload_n 0, 0, 0, 0), (1, 5, .getfield 26, 2, 0, 0), (4, 1, .aload_n 1, 0, 0, 0), (5, 1, .iload_n 2, 0, 0, 0), 
  (6, 12, .invokevirtual 30, 124, 2, 11), (9, 1, .iload_n 3, 0, 0, 0), (10, 12, .invokevirtual 36, 60, 3, 6), (13, 1, .aload_n 1, 0, 0, 0), 
  (14, 1, .iload_n 2, 0, 0, 0), (15, 12, .invokevirtual 42, 128, 2, 11), (18, 0, .bipush 10, 0, 0, 0), (20, 0, .idiv, 0, 0, 0), 
  (21, 3, .if_icmp .gt 7, 28, 0, 0), (24, 0, .iconst 1, 0, 0, 0), (25, 3, .goto 4, 29, 0, 0), (28, 0, .iconst 0, 0, 0, 0), (29, 13, .ireturn, 0, 0, 0)]
/-- TemperDowns$Downs.isRipe(LTemperDowns$Scene;I)Z -/
noncomputable def zk26 : List (Nat × zJ) := [
  (0, 1, .aload_n 0, 0, 0, 0), (1, 5, .getfield 26, 2, 0, 0), (4, 5, .getfield 159, 5, 8, 0), (7, 12, .invokevirtual 131, 109, 1, 10), 
  (10, 3, .ifCond .ne 19, 29, 0, 0), (13, 1, .aload_n 1, 0, 0, 0), (14, 1, .iload_n 2, 0, 0, 0), (15, 12, .invokevirtual 165, 129, 2, 11), 
  (18, 0, .bipush 10, 0, 0, 0), (20, 3, .if_icmp .lt 7, 27, 0, 0), (23, 0, .iconst 1, 0, 0, 0), (24, 3, .goto 4, 28, 0, 0), 
  (27, 0, .iconst 0, 0, 0, 0), (28, 13, .ireturn, 0, 0, 0), (29, 1, .aload_n 0, 0, 0, 0), (30, 5, .getfield 20, 2, 3, 0), (33, 0, .iconst 0, 0, 0, 0), 
  (34, 1, .aload_n 1, 0, 0, 0), (35, 1, .iload_n 2, 0, 0, 0), (36, 12, .invokevirtual 42, 128, 2, 11), (39, 8, .iastore, 0, 0, 0), 
  (40, 1, .aload_n 0, 0, 0, 0), (41, 5, .getfield 20, 2, 3, 0), (44, 0, .iconst 1, 0, 0, 0), (45, 1, .aload_n 0, 0, 0, 0), 
  (46, 5, .getfield 26, 2, 0, 0), (49, 5, .getfield 86, 5, 6, 0), (52, 1, .iload_n 2, 0, 0, 0), (53, 7, .iaload, 0, 0, 0), (54, 8, .iastore, 0, 0, 0), 
  (55, 1, .aload_n 0, 0, 0, 0), (56, 5, .getfield 20, 2, 3, 0), (59, 0, .iconst 2, 0, 0, 0), (60, 1, .aload_n 1, 0, 0, 0), 
  (61, 1, .iload_n 2, 0, 0, 0), (62, 12, .invokevirtual 165, 129, 2, 11), (65, 8, .iastore, 0, 0, 0), (66, 1, .aload_n 0, 0, 0, 0), 
  (67, 5, .getfield 20, 2, 3, 0), (70, 0, .iconst 3, 0, 0, 0), (71, 1, .aload_n 0, 0, 0, 0), (72, 5, .getfield 15, 2, 2, 0), 
  (75, 1, .iload_n 2, 0, 0, 0), (76, 7, .iaload, 0, 0, 0), (77, 12, .invokestatic 168, 332, 1, 0), (80, 8, .iastore, 0, 0, 0), 
  (81, 1, .aload_n 0, 0, 0, 0), (82, 5, .getfield 20, 2, 3, 0), (85, 0, .iconst 4, 0, 0, 0), (86, 1, .aload_n 1, 0, 0, 0), 
  (87, 12, .invokevirtual 144, 117, 1, 11), (90, 8, .iastore, 0, 0, 0), (91, 1, .aload_n 0, 0, 0, 0), (92, 5, .getfield 26, 2, 0, 0), 
  (95, 5, .getfield 159, 5, 8, 0), (98, 1, .aload_n 0, 0, 0, 0), (99, 5, .getfield 20, 2, 3, 0), (102, 1, .aload_n 0, 0, 0, 0), 
  (103, 5, .getfield 23, 2, 4, 0), (106, 12, .invokevirtual 147, 110, 3, 10), (109, 3, .ifCond .le 7, 116, 0, 0), (112, 0, .iconst 1, 0, 0, 0), 
  (113, 3, .goto 4, 117, 0, 0), (116, 0, .iconst 0, 0, 0, 0), (117, 13, .ireturn, 0, 0, 0)]
/-- TemperDowns$Downs.burst(LTemperDowns$Scene;I)I -/
noncomputable def zk27 : List (Nat × zJ) := [
  (0, 1, .iload_n 2, 0, 0, 0), (1, 3, .ifCond .ne 5, 6, 0, 0), (4, 0, .iconst 0, 0, 0, 0), (5, 13, .ireturn, 0, 0, 0), (6, 1, .aload_n 0, 0, 0, 0), 
  (7, 1, .aload_n 1, 0, 0, 0), (8, 12, .invokevirtual 57, 24, 2, 3), (11, 1, .aload_n 0, 0, 0, 0), (12, 1, .iload_n 2, 0, 0, 0), 
  (13, 1, .aload_n 1, 0, 0, 0), (14, 12, .invokevirtual 61, 130, 1, 11), (17, 12, .invokevirtual 65, 28, 3, 3), (20, 22, .istore_n 3, 0, 0, 0), 
  (21, 0, .iconst 0, 0, 0, 0), (22, 22, .istore 4, 0, 0, 0), (24, 1, .iload 4, 0, 0, 0), (26, 1, .aload_n 0, 0, 0, 0), (27, 5, .getfield 26, 2, 0, 0), 
  (30, 5, .getfield 71, 5, 3, 0), (33, 3, .if_icmp .ge 23, 56, 0, 0), (36, 1, .aload_n 1, 0, 0, 0), (37, 1, .iload 4, 0, 0, 0), 
  (39, 1, .aload_n 0, 0, 0, 0), (40, 1, .aload_n 1, 0, 0, 0), (41, 1, .iload_n 3, 0, 0, 0), (42, 1, .iload 4, 0, 0, 0), 
  (44, 12, .invokevirtual 74, 29, 4, 3), (47, 12, .invokevirtual 78, 131, 3, 11), (50, 22, .iinc 4 1, 0, 0, 0), (53, 3, .goto (-29), 24, 0, 0), 
  (56, 0, .iconst 0, 0, 0, 0), (57, 22, .istore 4, 0, 0, 0), (59, 1, .iload 4, 0, 0, 0), (61, 1, .aload_n 0, 0, 0, 0), (62, 5, .getfield 26, 2, 0, 0), 
  (65, 5, .getfield 45, 5, 4, 0), (68, 3, .if_icmp .ge 26, 94, 0, 0), (71, 1, .iload_n 3, 0, 0, 0), (72, 0, .iconst 1, 0, 0, 0), 
  (73, 1, .iload 4, 0, 0, 0), (75, 0, .ishl, 0, 0, 0), (76, 0, .iand, 0, 0, 0), (77, 3, .ifCond .eq 11, 88, 0, 0), (80, 1, .aload_n 1, 0, 0, 0), 
  (81, 1, .iload 4, 0, 0, 0), (83, 0, .iconst 0, 0, 0, 0), (84, 0, .iconst (-1), 0, 0, 0), (85, 12, .invokevirtual 82, 125, 4, 11), 
  (88, 22, .iinc 4 1, 0, 0, 0), (91, 3, .goto (-32), 59, 0, 0), (94, 1, .iload_n 3, 0, 0, 0), (95, 13, .ireturn, 0, 0, 0)]
/-- TemperDowns$Downs.chain(II)I -/
noncomputable def zk28 : List (Nat × zJ) := [
  (0, 1, .iload_n 1, 0, 0, 0), (1, 22, .istore_n 3, 0, 0, 0), (2, 0, .iconst 0, 0, 0, 0), (3, 22, .istore 4, 0, 0, 0), (5, 0, .iconst 0, 0, 0, 0), 
  (6, 22, .istore 5, 0, 0, 0), (8, 1, .iload 5, 0, 0, 0), (10, 1, .aload_n 0, 0, 0, 0), (11, 5, .getfield 26, 2, 0, 0), (14, 5, .getfield 45, 5, 4, 0), 
  (17, 3, .if_icmp .ge 62, 79, 0, 0), (20, 1, .iload_n 3, 0, 0, 0), (21, 1, .iload 4, 0, 0, 0), (23, 3, .if_icmp .eq 56, 79, 0, 0), 
  (26, 1, .iload_n 3, 0, 0, 0), (27, 22, .istore 4, 0, 0, 0), (29, 0, .iconst 0, 0, 0, 0), (30, 22, .istore 6, 0, 0, 0), (32, 1, .iload 6, 0, 0, 0), 
  (34, 1, .aload_n 0, 0, 0, 0), (35, 5, .getfield 26, 2, 0, 0), (38, 5, .getfield 45, 5, 4, 0), (41, 3, .if_icmp .ge 32, 73, 0, 0), 
  (44, 1, .iload_n 3, 0, 0, 0), (45, 0, .iconst 1, 0, 0, 0), (46, 1, .iload 6, 0, 0, 0), (48, 0, .ishl, 0, 0, 0), (49, 0, .iand, 0, 0, 0), 
  (50, 3, .ifCond .eq 17, 67, 0, 0), (53, 1, .iload_n 3, 0, 0, 0), (54, 1, .aload_n 0, 0, 0, 0), (55, 5, .getfield 15, 2, 2, 0), 
  (58, 1, .iload 6, 0, 0, 0), (60, 7, .iaload, 0, 0, 0), (61, 1, .iload_n 2, 0, 0, 0), (62, 0, .iconst (-1), 0, 0, 0), (63, 0, .ixor, 0, 0, 0), 
  (64, 0, .iand, 0, 0, 0), (65, 0, .ior, 0, 0, 0), (66, 22, .istore_n 3, 0, 0, 0), (67, 22, .iinc 6 1, 0, 0, 0), (70, 3, .goto (-38), 32, 0, 0), 
  (73, 22, .iinc 5 1, 0, 0, 0), (76, 3, .goto (-68), 8, 0, 0), (79, 1, .iload_n 3, 0, 0, 0), (80, 13, .ireturn, 0, 0, 0)]
/-- TemperDowns$Downs.heardOf(LTemperDowns$Scene;II)I -/
noncomputable def zk29 : List (Nat × zJ) := [
  (0, 0, .iconst 0, 0, 0, 0), (1, 22, .istore 4, 0, 0, 0), (3, 0, .iconst 0, 0, 0, 0), (4, 22, .istore 5, 0, 0, 0), (6, 1, .iload 5, 0, 0, 0), 
  (8, 1, .aload_n 0, 0, 0, 0), (9, 5, .getfield 26, 2, 0, 0), (12, 5, .getfield 45, 5, 4, 0), (15, 3, .if_icmp .ge 40, 55, 0, 0), 
  (18, 1, .iload_n 2, 0, 0, 0), (19, 0, .iconst 1, 0, 0, 0), (20, 1, .iload 5, 0, 0, 0), (22, 0, .ishl, 0, 0, 0), (23, 0, .iand, 0, 0, 0), 
  (24, 3, .ifCond .eq 25, 49, 0, 0), (27, 1, .aload_n 0, 0, 0, 0), (28, 1, .aload_n 1, 0, 0, 0), (29, 1, .iload 5, 0, 0, 0), 
  (31, 1, .aload_n 0, 0, 0, 0), (32, 5, .getfield 26, 2, 0, 0), (35, 5, .getfield 68, 5, 5, 0), (38, 1, .iload_n 3, 0, 0, 0), 
  (39, 7, .iaload, 0, 0, 0), (40, 12, .invokevirtual 53, 25, 4, 3), (43, 3, .ifCond .eq 6, 49, 0, 0), (46, 22, .iinc 4 1, 0, 0, 0), 
  (49, 22, .iinc 5 1, 0, 0, 0), (52, 3, .goto (-46), 6, 0, 0), (55, 1, .iload 4, 0, 0, 0), (57, 13, .ireturn, 0, 0, 0)]
/-- TemperDowns$Downs.whites(LTemperDowns$Scene;)I -/
noncomputable def zk30 : List (Nat × zJ) := [
  (0, 0, .iconst 0, 0, 0, 0), (1, 22, .istore_n 2, 0, 0, 0), (2, 0, .iconst 0, 0, 0, 0), (3, 22, .istore_n 3, 0, 0, 0), (4, 1, .iload_n 3, 0, 0, 0), 
  (5, 1, .aload_n 0, 0, 0, 0), (6, 5, .getfield 26, 2, 0, 0), (9, 5, .getfield 45, 5, 4, 0), (12, 3, .if_icmp .ge 23, 35, 0, 0), 
  (15, 1, .aload_n 1, 0, 0, 0), (16, 1, .iload_n 3, 0, 0, 0), (17, 12, .invokevirtual 49, 123, 2, 11), (20, 3, .ifCond .eq 9, 29, 0, 0), 
  (23, 1, .iload_n 2, 0, 0, 0), (24, 0, .iconst 1, 0, 0, 0), (25, 1, .iload_n 3, 0, 0, 0), (26, 0, .ishl, 0, 0, 0), (27, 0, .ior, 0, 0, 0), 
  (28, 22, .istore_n 2, 0, 0, 0), (29, 22, .iinc 3 1, 0, 0, 0), (32, 3, .goto (-28), 4, 0, 0), (35, 1, .iload_n 2, 0, 0, 0), 
  (36, 13, .ireturn, 0, 0, 0)]
/-- TemperDowns$Downs.heldByAll(LTemperDowns$Scene;)I -/
noncomputable def zk31 : List (Nat × zJ) := [
  (0, 0, .iconst 0, 0, 0, 0), (1, 22, .istore_n 2, 0, 0, 0), (2, 0, .iconst 0, 0, 0, 0), (3, 22, .istore_n 3, 0, 0, 0), (4, 1, .iload_n 3, 0, 0, 0), 
  (5, 1, .aload_n 0, 0, 0, 0), (6, 5, .getfield 26, 2, 0, 0), (9, 5, .getfield 45, 5, 4, 0), (12, 3, .if_icmp .ge 17, 29, 0, 0), 
  (15, 1, .iload_n 2, 0, 0, 0), (16, 1, .aload_n 1, 0, 0, 0), (17, 1, .iload_n 3, 0, 0, 0), (18, 12, .invokevirtual 42, 128, 2, 11), 
  (21, 0, .iadd, 0, 0, 0), (22, 22, .istore_n 2, 0, 0, 0), (23, 22, .iinc 3 1, 0, 0, 0), (26, 3, .goto (-22), 4, 0, 0), (29, 1, .iload_n 2, 0, 0, 0), 
  (30, 13, .ireturn, 0, 0, 0)]
/-- TemperDowns$Downs.temperOfAll(LTemperDowns$Scene;)I -/
noncomputable def zk32 : List (Nat × zJ) := [
  (0, 0, .iconst 0, 0, 0, 0), (1, 22, .istore_n 2, 0, 0, 0), (2, 0, .iconst 0, 0, 0, 0), (3, 22, .istore_n 3, 0, 0, 0), (4, 1, .iload_n 3, 0, 0, 0), 
  (5, 1, .aload_n 0, 0, 0, 0), (6, 5, .getfield 26, 2, 0, 0), (9, 5, .getfield 71, 5, 3, 0), (12, 3, .if_icmp .ge 17, 29, 0, 0), 
  (15, 1, .iload_n 2, 0, 0, 0), (16, 1, .aload_n 1, 0, 0, 0), (17, 1, .iload_n 3, 0, 0, 0), (18, 12, .invokevirtual 89, 118, 2, 11), 
  (21, 0, .iadd, 0, 0, 0), (22, 22, .istore_n 2, 0, 0, 0), (23, 22, .iinc 3 1, 0, 0, 0), (26, 3, .goto (-22), 4, 0, 0), (29, 1, .iload_n 2, 0, 0, 0), 
  (30, 13, .ireturn, 0, 0, 0)]
/-- TemperDowns$Downs.shoutedByAll(LTemperDowns$Scene;)I -/
noncomputable def zk33 : List (Nat × zJ) := [
  (0, 0, .iconst 0, 0, 0, 0), (1, 22, .istore_n 2, 0, 0, 0), (2, 0, .iconst 0, 0, 0, 0), (3, 22, .istore_n 3, 0, 0, 0), (4, 1, .iload_n 3, 0, 0, 0), 
  (5, 1, .aload_n 0, 0, 0, 0), (6, 5, .getfield 26, 2, 0, 0), (9, 5, .getfield 71, 5, 3, 0), (12, 3, .if_icmp .ge 17, 29, 0, 0), 
  (15, 1, .iload_n 2, 0, 0, 0), (16, 1, .aload_n 1, 0, 0, 0), (17, 1, .iload_n 3, 0, 0, 0), (18, 12, .invokevirtual 138, 120, 2, 11), 
  (21, 0, .iadd, 0, 0, 0), (22, 22, .istore_n 2, 0, 0, 0), (23, 22, .iinc 3 1, 0, 0, 0), (26, 3, .goto (-22), 4, 0, 0), (29, 1, .iload_n 2, 0, 0, 0), 
  (30, 13, .ireturn, 0, 0, 0)]
/-- TemperDowns$Downs.ownedBy(LTemperDowns$Scene;I)I -/
noncomputable def zk34 : List (Nat × zJ) := [
  (0, 0, .iconst 0, 0, 0, 0), (1, 22, .istore_n 3, 0, 0, 0), (2, 0, .iconst 0, 0, 0, 0), (3, 22, .istore 4, 0, 0, 0), (5, 1, .iload 4, 0, 0, 0), 
  (7, 1, .aload_n 0, 0, 0, 0), (8, 5, .getfield 26, 2, 0, 0), (11, 5, .getfield 45, 5, 4, 0), (14, 3, .if_icmp .ge 26, 40, 0, 0), 
  (17, 1, .aload_n 1, 0, 0, 0), (18, 1, .iload 4, 0, 0, 0), (20, 12, .invokevirtual 173, 138, 2, 11), (23, 1, .iload_n 2, 0, 0, 0), 
  (24, 3, .if_icmp .ne 10, 34, 0, 0), (27, 1, .iload_n 3, 0, 0, 0), (28, 0, .iconst 1, 0, 0, 0), (29, 1, .iload 4, 0, 0, 0), (31, 0, .ishl, 0, 0, 0), 
  (32, 0, .ior, 0, 0, 0), (33, 22, .istore_n 3, 0, 0, 0), (34, 22, .iinc 4 1, 0, 0, 0), (37, 3, .goto (-32), 5, 0, 0), (40, 1, .iload_n 3, 0, 0, 0), 
  (41, 13, .ireturn, 0, 0, 0)]
/-- TemperDowns$Downs.setOffBy(LTemperDowns$Scene;I)I -/
noncomputable def zk35 : List (Nat × zJ) := [
  (0, 1, .aload_n 1, 0, 0, 0), (1, 1, .iload_n 2, 0, 0, 0), (2, 12, .invokevirtual 49, 123, 2, 11), (5, 3, .ifCond .eq 5, 10, 0, 0), 
  (8, 0, .iconst 0, 0, 0, 0), (9, 13, .ireturn, 0, 0, 0), (10, 1, .aload_n 0, 0, 0, 0), (11, 1, .aload_n 1, 0, 0, 0), 
  (12, 12, .invokevirtual 57, 24, 2, 3), (15, 1, .aload_n 0, 0, 0, 0), (16, 0, .iconst 1, 0, 0, 0), (17, 1, .iload_n 2, 0, 0, 0), 
  (18, 0, .ishl, 0, 0, 0), (19, 1, .aload_n 1, 0, 0, 0), (20, 12, .invokevirtual 61, 130, 1, 11), (23, 12, .invokevirtual 65, 28, 3, 3), 
  (26, 13, .ireturn, 0, 0, 0)]
/-- TemperDowns$Downs.hearers(LTemperDowns$Scene;I)I -/
noncomputable def zk36 : List (Nat × zJ) := [
  (0, 0, .iconst 0, 0, 0, 0), (1, 22, .istore_n 3, 0, 0, 0), (2, 0, .iconst 0, 0, 0, 0), (3, 22, .istore 4, 0, 0, 0), (5, 1, .iload 4, 0, 0, 0), 
  (7, 1, .aload_n 0, 0, 0, 0), (8, 5, .getfield 26, 2, 0, 0), (11, 5, .getfield 71, 5, 3, 0), (14, 3, .if_icmp .ge 27, 41, 0, 0), 
  (17, 1, .aload_n 0, 0, 0, 0), (18, 1, .aload_n 1, 0, 0, 0), (19, 1, .iload_n 2, 0, 0, 0), (20, 1, .iload 4, 0, 0, 0), 
  (22, 12, .invokevirtual 74, 29, 4, 3), (25, 3, .ifCond .le 10, 35, 0, 0), (28, 1, .iload_n 3, 0, 0, 0), (29, 0, .iconst 1, 0, 0, 0), 
  (30, 1, .iload 4, 0, 0, 0), (32, 0, .ishl, 0, 0, 0), (33, 0, .ior, 0, 0, 0), (34, 22, .istore_n 3, 0, 0, 0), (35, 22, .iinc 4 1, 0, 0, 0), 
  (38, 3, .goto (-33), 5, 0, 0), (41, 1, .iload_n 3, 0, 0, 0), (42, 13, .ireturn, 0, 0, 0)]
/-- TemperDowns$Downs.crossest(LTemperDowns$Scene;)I -/
noncomputable def zk37 : List (Nat × zJ) := [
  (0, 0, .iconst (-1), 0, 0, 0), (1, 22, .istore_n 2, 0, 0, 0), (2, 0, .iconst 0, 0, 0, 0), (3, 22, .istore_n 3, 0, 0, 0), (4, 1, .iload_n 3, 0, 0, 0), 
  (5, 1, .aload_n 0, 0, 0, 0), (6, 5, .getfield 26, 2, 0, 0), (9, 5, .getfield 71, 5, 3, 0), (12, 3, .if_icmp .ge 29, 41, 0, 0), 
  (15, 1, .iload_n 2, 0, 0, 0), (16, 0, .iconst (-1), 0, 0, 0), (17, 3, .if_icmp .eq 16, 33, 0, 0), (20, 1, .aload_n 1, 0, 0, 0), 
  (21, 1, .iload_n 3, 0, 0, 0), (22, 12, .invokevirtual 89, 118, 2, 11), (25, 1, .aload_n 1, 0, 0, 0), (26, 1, .iload_n 2, 0, 0, 0), 
  (27, 12, .invokevirtual 89, 118, 2, 11), (30, 3, .if_icmp .le 5, 35, 0, 0), (33, 1, .iload_n 3, 0, 0, 0), (34, 22, .istore_n 2, 0, 0, 0), 
  (35, 22, .iinc 3 1, 0, 0, 0), (38, 3, .goto (-34), 4, 0, 0), (41, 1, .iload_n 2, 0, 0, 0), (42, 13, .ireturn, 0, 0, 0)]
/-- TemperDowns$Downs.fullest(LTemperDowns$Scene;I)I -/
noncomputable def zk38 : List (Nat × zJ) := [
  (0, 0, .iconst (-1), 0, 0, 0), (1, 22, .istore_n 3, 0, 0, 0), (2, 0, .iconst 0, 0, 0, 0), (3, 22, .istore 4, 0, 0, 0), (5, 1, .iload 4, 0, 0, 0), 
  (7, 1, .aload_n 0, 0, 0, 0), (8, 5, .getfield 26, 2, 0, 0), (11, 5, .getfield 45, 5, 4, 0), (14, 3, .if_icmp .ge 49, 63, 0, 0), 
  (17, 1, .aload_n 1, 0, 0, 0), (18, 1, .iload 4, 0, 0, 0), (20, 12, .invokevirtual 49, 123, 2, 11), (23, 3, .ifCond .ne 34, 57, 0, 0), 
  (26, 1, .iload_n 2, 0, 0, 0), (27, 0, .iconst 1, 0, 0, 0), (28, 1, .iload 4, 0, 0, 0), (30, 0, .ishl, 0, 0, 0), (31, 0, .iand, 0, 0, 0), 
  (32, 3, .ifCond .ne 25, 57, 0, 0), (35, 1, .iload_n 3, 0, 0, 0), (36, 0, .iconst (-1), 0, 0, 0), (37, 3, .if_icmp .eq 17, 54, 0, 0), 
  (40, 1, .aload_n 1, 0, 0, 0), (41, 1, .iload 4, 0, 0, 0), (43, 12, .invokevirtual 42, 128, 2, 11), (46, 1, .aload_n 1, 0, 0, 0), 
  (47, 1, .iload_n 3, 0, 0, 0), (48, 12, .invokevirtual 42, 128, 2, 11), (51, 3, .if_icmp .le 6, 57, 0, 0), (54, 1, .iload 4, 0, 0, 0), 
  (56, 22, .istore_n 3, 0, 0, 0), (57, 22, .iinc 4 1, 0, 0, 0), (60, 3, .goto (-55), 5, 0, 0), (63, 1, .iload_n 3, 0, 0, 0), 
  (64, 13, .ireturn, 0, 0, 0)]
/-- TemperDowns$Downs.over(LTemperDowns$Scene;I)I -/
noncomputable def zk39 : List (Nat × zJ) := [
  (0, 0, .iconst 0, 0, 0, 0), (1, 22, .istore_n 3, 0, 0, 0), (2, 0, .iconst 0, 0, 0, 0), (3, 22, .istore 4, 0, 0, 0), (5, 1, .iload 4, 0, 0, 0), 
  (7, 1, .aload_n 0, 0, 0, 0), (8, 5, .getfield 26, 2, 0, 0), (11, 5, .getfield 45, 5, 4, 0), (14, 3, .if_icmp .ge 36, 50, 0, 0), 
  (17, 1, .aload_n 1, 0, 0, 0), (18, 1, .iload 4, 0, 0, 0), (20, 12, .invokevirtual 49, 123, 2, 11), (23, 3, .ifCond .ne 21, 44, 0, 0), 
  (26, 1, .aload_n 0, 0, 0, 0), (27, 1, .aload_n 1, 0, 0, 0), (28, 1, .iload 4, 0, 0, 0), (30, 1, .iload_n 2, 0, 0, 0), 
  (31, 12, .invokevirtual 53, 25, 4, 3), (34, 3, .ifCond .eq 10, 44, 0, 0), (37, 1, .iload_n 3, 0, 0, 0), (38, 0, .iconst 1, 0, 0, 0), 
  (39, 1, .iload 4, 0, 0, 0), (41, 0, .ishl, 0, 0, 0), (42, 0, .ior, 0, 0, 0), (43, 22, .istore_n 3, 0, 0, 0), (44, 22, .iinc 4 1, 0, 0, 0), 
  (47, 3, .goto (-42), 5, 0, 0), (50, 1, .iload_n 3, 0, 0, 0), (51, 13, .ireturn, 0, 0, 0)]
/-- TemperDowns$Downs.nearestBall(LTemperDowns$Scene;I)I -/
noncomputable def zk40 : List (Nat × zJ) := [
  (0, 0, .iconst (-1), 0, 0, 0), (1, 22, .istore_n 3, 0, 0, 0), (2, 0, .iconst 0, 0, 0, 0), (3, 22, .istore 4, 0, 0, 0), (5, 1, .iload 4, 0, 0, 0), 
  (7, 1, .aload_n 0, 0, 0, 0), (8, 5, .getfield 26, 2, 0, 0), (11, 5, .getfield 45, 5, 4, 0), (14, 3, .if_icmp .ge 47, 61, 0, 0), 
  (17, 1, .iload_n 3, 0, 0, 0), (18, 0, .iconst (-1), 0, 0, 0), (19, 3, .if_icmp .eq 33, 52, 0, 0), (22, 1, .aload_n 0, 0, 0, 0), 
  (23, 5, .getfield 26, 2, 0, 0), (26, 1, .aload_n 1, 0, 0, 0), (27, 1, .iload 4, 0, 0, 0), (29, 12, .invokevirtual 30, 124, 2, 11), 
  (32, 1, .iload_n 2, 0, 0, 0), (33, 12, .invokevirtual 36, 60, 3, 6), (36, 1, .aload_n 0, 0, 0, 0), (37, 5, .getfield 26, 2, 0, 0), 
  (40, 1, .aload_n 1, 0, 0, 0), (41, 1, .iload_n 3, 0, 0, 0), (42, 12, .invokevirtual 30, 124, 2, 11), (45, 1, .iload_n 2, 0, 0, 0), 
  (46, 12, .invokevirtual 36, 60, 3, 6), (49, 3, .if_icmp .ge 6, 55, 0, 0), (52, 1, .iload 4, 0, 0, 0), (54, 22, .istore_n 3, 0, 0, 0), 
  (55, 22, .iinc 4 1, 0, 0, 0), (58, 3, .goto (-53), 5, 0, 0), (61, 1, .iload_n 3, 0, 0, 0), (62, 13, .ireturn, 0, 0, 0)]
/-- TemperDowns$Forecast.<init>(LTemperDowns$Downs;LTemperDowns$Scene;)V -/
noncomputable def zk41 : List (Nat × zJ) := [
  (0, 1, .aload_n 0, 0, 0, 0), (1, 19, .invokespecial 3, 0, 0, 0), (4, 1, .aload_n 0, 0, 0, 0), (5, 10, .new 9, 10, 0, 0), (8, 0, .dup, 0, 0, 0), 
  (9, 12, .invokespecial 11, 115, 1, 99), (12, 6, .putfield 12, 3, 2, 3), (15, 1, .aload_n 0, 0, 0, 0), (16, 1, .aload_n 1, 0, 0, 0), 
  (17, 6, .putfield 18, 3, 0, 3), (20, 1, .aload_n 0, 0, 0, 0), (21, 1, .aload_n 2, 0, 0, 0), (22, 6, .putfield 22, 3, 1, 3), 
  (25, 13, .return_, 0, 0, 0)]
/-- TemperDowns$Forecast.firstToBurst()I -/
noncomputable def zk42 : List (Nat × zJ) := [
  (0, 1, .aload_n 0, 0, 0, 0), (1, 0, .iconst 0, 0, 0, 0), (2, 0, .iconst (-1), 0, 0, 0), (3, 12, .invokevirtual 38, 43, 3, 4), 
  (6, 0, .iconst (-1), 0, 0, 0), (7, 3, .if_icmp .ne 5, 12, 0, 0), (10, 0, .iconst (-1), 0, 0, 0), (11, 13, .ireturn, 0, 0, 0), 
  (12, 0, .iconst 0, 0, 0, 0), (13, 22, .istore_n 1, 0, 0, 0), (14, 1, .iload_n 1, 0, 0, 0), (15, 0, .bipush 10, 0, 0, 0), 
  (17, 3, .if_icmp .ge 27, 44, 0, 0), (20, 1, .aload_n 0, 0, 0, 0), (21, 5, .getfield 18, 3, 0, 0), (24, 5, .getfield 34, 2, 1, 0), 
  (27, 0, .iconst 0, 0, 0, 0), (28, 7, .iaload, 0, 0, 0), (29, 0, .iconst 1, 0, 0, 0), (30, 1, .iload_n 1, 0, 0, 0), (31, 0, .ishl, 0, 0, 0), 
  (32, 0, .iand, 0, 0, 0), (33, 3, .ifCond .eq 5, 38, 0, 0), (36, 1, .iload_n 1, 0, 0, 0), (37, 13, .ireturn, 0, 0, 0), (38, 22, .iinc 1 1, 0, 0, 0), 
  (41, 3, .goto (-27), 14, 0, 0), (44, 0, .iconst (-1), 0, 0, 0), (45, 13, .ireturn, 0, 0, 0)]
/-- TemperDowns$Forecast.firstDay(II)I -/
noncomputable def zk43 : List (Nat × zJ) := [
  (0, 1, .aload_n 0, 0, 0, 0), (1, 5, .getfield 12, 3, 2, 0), (4, 1, .aload_n 0, 0, 0, 0), (5, 5, .getfield 22, 3, 1, 0), 
  (8, 12, .invokevirtual 25, 133, 2, 11), (11, 0, .iconst 1, 0, 0, 0), (12, 22, .istore_n 3, 0, 0, 0), (13, 1, .iload_n 3, 0, 0, 0), 
  (14, 0, .bipush 60, 0, 0, 0), (16, 3, .if_icmp .gt 36, 52, 0, 0), (19, 1, .aload_n 0, 0, 0, 0), (20, 5, .getfield 18, 3, 0, 0), 
  (23, 1, .aload_n 0, 0, 0, 0), (24, 5, .getfield 12, 3, 2, 0), (27, 12, .invokevirtual 29, 18, 2, 3), (30, 1, .aload_n 0, 0, 0, 0), 
  (31, 5, .getfield 18, 3, 0, 0), (34, 5, .getfield 34, 2, 1, 0), (37, 1, .iload_n 1, 0, 0, 0), (38, 7, .iaload, 0, 0, 0), 
  (39, 1, .iload_n 2, 0, 0, 0), (40, 0, .iand, 0, 0, 0), (41, 3, .ifCond .eq 5, 46, 0, 0), (44, 1, .iload_n 3, 0, 0, 0), (45, 13, .ireturn, 0, 0, 0), 
  (46, 22, .iinc 3 1, 0, 0, 0), (49, 3, .goto (-36), 13, 0, 0), (52, 0, .iconst (-1), 0, 0, 0), (53, 13, .ireturn, 0, 0, 0)]
/-- TemperDowns$Forecast.behind(I)LTemperDowns$Scene; -/
noncomputable def zk44 : List (Nat × zJ) := [
  (0, 1, .aload_n 0, 0, 0, 0), (1, 5, .getfield 12, 3, 2, 0), (4, 1, .aload_n 0, 0, 0, 0), (5, 5, .getfield 22, 3, 1, 0), 
  (8, 12, .invokevirtual 25, 133, 2, 11), (11, 0, .iconst 1, 0, 0, 0), (12, 22, .istore_n 2, 0, 0, 0), (13, 1, .iload_n 2, 0, 0, 0), 
  (14, 1, .iload_n 1, 0, 0, 0), (15, 3, .if_icmp .gt 20, 35, 0, 0), (18, 1, .aload_n 0, 0, 0, 0), (19, 5, .getfield 18, 3, 0, 0), 
  (22, 1, .aload_n 0, 0, 0, 0), (23, 5, .getfield 12, 3, 2, 0), (26, 12, .invokevirtual 29, 18, 2, 3), (29, 22, .iinc 2 1, 0, 0, 0), 
  (32, 3, .goto (-19), 13, 0, 0), (35, 1, .aload_n 0, 0, 0, 0), (36, 5, .getfield 12, 3, 2, 0), (39, 13, .areturn, 0, 0, 0)]
/-- TemperDowns$Forecast.bursts(I)I -/
noncomputable def zk45 : List (Nat × zJ) := [
  (0, 0, .iconst 0, 0, 0, 0), (1, 22, .istore_n 2, 0, 0, 0), (2, 1, .aload_n 0, 0, 0, 0), (3, 5, .getfield 12, 3, 2, 0), (6, 1, .aload_n 0, 0, 0, 0), 
  (7, 5, .getfield 22, 3, 1, 0), (10, 12, .invokevirtual 25, 133, 2, 11), (13, 0, .iconst 1, 0, 0, 0), (14, 22, .istore_n 3, 0, 0, 0), 
  (15, 1, .iload_n 3, 0, 0, 0), (16, 1, .iload_n 1, 0, 0, 0), (17, 3, .if_icmp .gt 35, 52, 0, 0), (20, 1, .aload_n 0, 0, 0, 0), 
  (21, 5, .getfield 18, 3, 0, 0), (24, 1, .aload_n 0, 0, 0, 0), (25, 5, .getfield 12, 3, 2, 0), (28, 12, .invokevirtual 29, 18, 2, 3), 
  (31, 1, .iload_n 2, 0, 0, 0), (32, 1, .aload_n 0, 0, 0, 0), (33, 5, .getfield 18, 3, 0, 0), (36, 5, .getfield 34, 2, 1, 0), 
  (39, 0, .iconst 0, 0, 0, 0), (40, 7, .iaload, 0, 0, 0), (41, 12, .invokestatic 42, 332, 1, 0), (44, 0, .iadd, 0, 0, 0), 
  (45, 22, .istore_n 2, 0, 0, 0), (46, 22, .iinc 3 1, 0, 0, 0), (49, 3, .goto (-34), 15, 0, 0), (52, 1, .iload_n 2, 0, 0, 0), 
  (53, 13, .ireturn, 0, 0, 0)]
/-- TemperDowns$Forecast.calmDays(I)I -/
noncomputable def zk46 : List (Nat × zJ) := [
  (0, 0, .iconst 0, 0, 0, 0), (1, 22, .istore_n 2, 0, 0, 0), (2, 1, .aload_n 0, 0, 0, 0), (3, 5, .getfield 12, 3, 2, 0), (6, 1, .aload_n 0, 0, 0, 0), 
  (7, 5, .getfield 22, 3, 1, 0), (10, 12, .invokevirtual 25, 133, 2, 11), (13, 0, .iconst 1, 0, 0, 0), (14, 22, .istore_n 3, 0, 0, 0), 
  (15, 1, .iload_n 3, 0, 0, 0), (16, 1, .iload_n 1, 0, 0, 0), (17, 3, .if_icmp .gt 47, 64, 0, 0), (20, 1, .aload_n 0, 0, 0, 0), 
  (21, 5, .getfield 18, 3, 0, 0), (24, 1, .aload_n 0, 0, 0, 0), (25, 5, .getfield 12, 3, 2, 0), (28, 12, .invokevirtual 29, 18, 2, 3), 
  (31, 1, .aload_n 0, 0, 0, 0), (32, 5, .getfield 18, 3, 0, 0), (35, 5, .getfield 34, 2, 1, 0), (38, 0, .iconst 0, 0, 0, 0), (39, 7, .iaload, 0, 0, 0), 
  (40, 3, .ifCond .ne 18, 58, 0, 0), (43, 1, .aload_n 0, 0, 0, 0), (44, 5, .getfield 18, 3, 0, 0), (47, 5, .getfield 34, 2, 1, 0), 
  (50, 0, .iconst 2, 0, 0, 0), (51, 7, .iaload, 0, 0, 0), (52, 3, .ifCond .ne 6, 58, 0, 0), (55, 22, .iinc 2 1, 0, 0, 0), (58, 22, .iinc 3 1, 0, 0, 0), 
  (61, 3, .goto (-46), 15, 0, 0), (64, 1, .iload_n 2, 0, 0, 0), (65, 13, .ireturn, 0, 0, 0)]
/-- TemperDowns$Forecast.outstayed(II)I -/
noncomputable def zk47 : List (Nat × zJ) := [
  (0, 0, .iconst 0, 0, 0, 0), (1, 22, .istore_n 3, 0, 0, 0), (2, 1, .aload_n 0, 0, 0, 0), (3, 5, .getfield 12, 3, 2, 0), (6, 1, .aload_n 0, 0, 0, 0), 
  (7, 5, .getfield 22, 3, 1, 0), (10, 12, .invokevirtual 25, 133, 2, 11), (13, 0, .iconst 1, 0, 0, 0), (14, 22, .istore 4, 0, 0, 0), 
  (16, 1, .iload 4, 0, 0, 0), (18, 1, .iload_n 2, 0, 0, 0), (19, 3, .if_icmp .gt 38, 57, 0, 0), (22, 1, .aload_n 0, 0, 0, 0), 
  (23, 5, .getfield 18, 3, 0, 0), (26, 1, .aload_n 0, 0, 0, 0), (27, 5, .getfield 12, 3, 2, 0), (30, 12, .invokevirtual 29, 18, 2, 3), 
  (33, 1, .iload_n 3, 0, 0, 0), (34, 1, .aload_n 0, 0, 0, 0), (35, 5, .getfield 18, 3, 0, 0), (38, 1, .aload_n 0, 0, 0, 0), 
  (39, 5, .getfield 12, 3, 2, 0), (42, 1, .iload_n 1, 0, 0, 0), (43, 12, .invokevirtual 48, 34, 3, 3), (46, 12, .invokestatic 42, 332, 1, 0), 
  (49, 0, .iadd, 0, 0, 0), (50, 22, .istore_n 3, 0, 0, 0), (51, 22, .iinc 4 1, 0, 0, 0), (54, 3, .goto (-38), 16, 0, 0), (57, 1, .iload_n 3, 0, 0, 0), 
  (58, 13, .ireturn, 0, 0, 0)]
/-- TemperDowns$Guess.<init>(LTemperDowns$Downs;LTemperDowns$Book;)V -/
noncomputable def zk48 : List (Nat × zJ) := [
  (0, 1, .aload_n 0, 0, 0, 0), (1, 19, .invokespecial 3, 0, 0, 0), (4, 1, .aload_n 0, 0, 0, 0), (5, 10, .new 9, 10, 0, 0), (8, 0, .dup, 0, 0, 0), 
  (9, 12, .invokespecial 11, 115, 1, 99), (12, 6, .putfield 12, 4, 5, 3), (15, 1, .aload_n 0, 0, 0, 0), (16, 10, .new 9, 10, 0, 0), 
  (19, 0, .dup, 0, 0, 0), (20, 12, .invokespecial 11, 115, 1, 99), (23, 6, .putfield 18, 4, 6, 3), (26, 1, .aload_n 0, 0, 0, 0), 
  (27, 0, .bipush 40, 0, 0, 0), (29, 11, .newarray .int, 0, 0, 0), (31, 6, .putfield 21, 4, 7, 3), (34, 1, .aload_n 0, 0, 0, 0), 
  (35, 1, .aload_n 1, 0, 0, 0), (36, 6, .putfield 25, 4, 2, 3), (39, 1, .aload_n 0, 0, 0, 0), (40, 1, .aload_n 1, 0, 0, 0), 
  (41, 5, .getfield 29, 2, 0, 0), (44, 6, .putfield 35, 4, 3, 3), (47, 1, .aload_n 0, 0, 0, 0), (48, 1, .aload_n 2, 0, 0, 0), 
  (49, 6, .putfield 36, 4, 4, 3), (52, 13, .return_, 0, 0, 0)]
/-- TemperDowns$Guess.isSoAnyway()Z -/
noncomputable def zk49 : List (Nat × zJ) := [
  (0, 1, .aload_n 0, 0, 0, 0), (1, 5, .getfield 12, 4, 5, 0), (4, 1, .aload_n 0, 0, 0, 0), (5, 5, .getfield 36, 4, 4, 0), 
  (8, 5, .getfield 40, 0, 0, 0), (11, 12, .invokevirtual 43, 133, 2, 11), (14, 1, .aload_n 0, 0, 0, 0), (15, 1, .aload_n 0, 0, 0, 0), 
  (16, 12, .invokevirtual 47, 50, 1, 5), (19, 12, .invokevirtual 51, 51, 2, 5), (22, 13, .ireturn, 0, 0, 0)]
/-- TemperDowns$Guess.lastDay()I -/
noncomputable def zk50 : List (Nat × zJ) := [
  (0, 0, .iconst 0, 0, 0, 0), (1, 22, .istore_n 1, 0, 0, 0), (2, 0, .iconst 0, 0, 0, 0), (3, 22, .istore_n 2, 0, 0, 0), (4, 1, .iload_n 2, 0, 0, 0), 
  (5, 1, .aload_n 0, 0, 0, 0), (6, 5, .getfield 36, 4, 4, 0), (9, 5, .getfield 90, 0, 3, 0), (12, 3, .if_icmp .ge 23, 35, 0, 0), 
  (15, 1, .iload_n 1, 0, 0, 0), (16, 1, .aload_n 0, 0, 0, 0), (17, 5, .getfield 36, 4, 4, 0), (20, 5, .getfield 93, 0, 5, 0), 
  (23, 1, .iload_n 2, 0, 0, 0), (24, 7, .iaload, 0, 0, 0), (25, 21, .invokestatic 55, 1, 0, 0), (28, 22, .istore_n 1, 0, 0, 0), 
  (29, 22, .iinc 2 1, 0, 0, 0), (32, 3, .goto (-28), 4, 0, 0), (35, 1, .iload_n 1, 0, 0, 0), (36, 13, .ireturn, 0, 0, 0)]
/-- TemperDowns$Guess.agrees(I)Z -/
noncomputable def zk51 : List (Nat × zJ) := [
  (0, 0, .iconst 0, 0, 0, 0), (1, 22, .istore_n 2, 0, 0, 0), (2, 1, .iload_n 2, 0, 0, 0), (3, 1, .iload_n 1, 0, 0, 0), 
  (4, 3, .if_icmp .gt 51, 55, 0, 0), (7, 1, .iload_n 2, 0, 0, 0), (8, 3, .ifCond .le 14, 22, 0, 0), (11, 1, .aload_n 0, 0, 0, 0), 
  (12, 5, .getfield 25, 4, 2, 0), (15, 1, .aload_n 0, 0, 0, 0), (16, 5, .getfield 12, 4, 5, 0), (19, 12, .invokevirtual 96, 18, 2, 3), 
  (22, 1, .aload_n 0, 0, 0, 0), (23, 1, .iload_n 2, 0, 0, 0), (24, 12, .invokevirtual 99, 52, 2, 5), (27, 3, .ifCond .ne 5, 32, 0, 0), 
  (30, 0, .iconst 0, 0, 0, 0), (31, 13, .ireturn, 0, 0, 0), (32, 1, .iload_n 2, 0, 0, 0), (33, 0, .bipush 8, 0, 0, 0), 
  (35, 3, .if_icmp .ne 14, 49, 0, 0), (38, 1, .aload_n 0, 0, 0, 0), (39, 5, .getfield 18, 4, 6, 0), (42, 1, .aload_n 0, 0, 0, 0), 
  (43, 5, .getfield 12, 4, 5, 0), (46, 12, .invokevirtual 43, 133, 2, 11), (49, 22, .iinc 2 1, 0, 0, 0), (52, 3, .goto (-50), 2, 0, 0), 
  (55, 0, .iconst 1, 0, 0, 0), (56, 13, .ireturn, 0, 0, 0)]
/-- TemperDowns$Guess.agreesOn(I)Z -/
noncomputable def zk52 : List (Nat × zJ) := [
  (0, 0, .iconst 0, 0, 0, 0), (1, 22, .istore_n 2, 0, 0, 0), (2, 1, .iload_n 2, 0, 0, 0), (3, 1, .aload_n 0, 0, 0, 0), (4, 5, .getfield 36, 4, 4, 0), 
  (7, 5, .getfield 90, 0, 3, 0), (10, 3, .if_icmp .ge 61, 71, 0, 0), (13, 1, .aload_n 0, 0, 0, 0), (14, 5, .getfield 36, 4, 4, 0), 
  (17, 5, .getfield 93, 0, 5, 0), (20, 1, .iload_n 2, 0, 0, 0), (21, 7, .iaload, 0, 0, 0), (22, 1, .iload_n 1, 0, 0, 0), 
  (23, 3, .if_icmp .ne 42, 65, 0, 0), (26, 1, .aload_n 0, 0, 0, 0), (27, 5, .getfield 12, 4, 5, 0), (30, 1, .aload_n 0, 0, 0, 0), 
  (31, 5, .getfield 36, 4, 4, 0), (34, 5, .getfield 102, 0, 4, 0), (37, 1, .iload_n 2, 0, 0, 0), (38, 7, .iaload, 0, 0, 0), 
  (39, 12, .invokevirtual 105, 123, 2, 11), (42, 1, .aload_n 0, 0, 0, 0), (43, 5, .getfield 36, 4, 4, 0), (46, 5, .getfield 108, 0, 6, 0), 
  (49, 1, .iload_n 2, 0, 0, 0), (50, 7, .iaload, 0, 0, 0), (51, 0, .iconst 1, 0, 0, 0), (52, 3, .if_icmp .ne 7, 59, 0, 0), (55, 0, .iconst 1, 0, 0, 0), 
  (56, 3, .goto 4, 60, 0, 0), (59, 0, .iconst 0, 0, 0, 0), (60, 3, .if_icmp .eq 5, 65, 0, 0), (63, 0, .iconst 0, 0, 0, 0), (64, 13, .ireturn, 0, 0, 0), 
  (65, 22, .iinc 2 1, 0, 0, 0), (68, 3, .goto (-66), 2, 0, 0), (71, 0, .iconst 1, 0, 0, 0), (72, 13, .ireturn, 0, 0, 0)]
/-- TemperDowns$Guess.search(I)V -/
noncomputable def zk53 : List (Nat × zJ) := [
  (0, 1, .iload_n 1, 0, 0, 0), (1, 1, .aload_n 0, 0, 0, 0), (2, 12, .invokevirtual 47, 50, 1, 5), (5, 21, .invokestatic 55, 1, 0, 0), 
  (8, 22, .istore_n 2, 0, 0, 0), (9, 1, .aload_n 0, 0, 0, 0), (10, 0, .iconst 0, 0, 0, 0), (11, 6, .putfield 61, 4, 0, 0), 
  (14, 1, .aload_n 0, 0, 0, 0), (15, 0, .iconst (-1), 0, 0, 0), (16, 6, .putfield 65, 4, 1, 0), (19, 0, .iconst 0, 0, 0, 0), 
  (20, 22, .istore_n 3, 0, 0, 0), (21, 1, .iload_n 3, 0, 0, 0), (22, 1, .aload_n 0, 0, 0, 0), (23, 5, .getfield 21, 4, 7, 0), 
  (26, 9, .arraylength, 0, 0, 0), (27, 3, .if_icmp .ge 16, 43, 0, 0), (30, 1, .aload_n 0, 0, 0, 0), (31, 5, .getfield 21, 4, 7, 0), 
  (34, 1, .iload_n 3, 0, 0, 0), (35, 0, .iconst 0, 0, 0, 0), (36, 8, .iastore, 0, 0, 0), (37, 22, .iinc 3 1, 0, 0, 0), (40, 3, .goto (-19), 21, 0, 0), 
  (43, 0, .iconst 0, 0, 0, 0), (44, 22, .istore_n 3, 0, 0, 0), (45, 1, .iload_n 3, 0, 0, 0), (46, 0, .bipush 10, 0, 0, 0), 
  (48, 1, .aload_n 0, 0, 0, 0), (49, 5, .getfield 35, 4, 3, 0), (52, 5, .getfield 68, 5, 3, 0), (55, 0, .imul, 0, 0, 0), 
  (56, 3, .if_icmp .ge 77, 133, 0, 0), (59, 1, .iload_n 3, 0, 0, 0), (60, 0, .bipush 10, 0, 0, 0), (62, 0, .idiv, 0, 0, 0), 
  (63, 22, .istore 4, 0, 0, 0), (65, 1, .iload_n 3, 0, 0, 0), (66, 0, .bipush 10, 0, 0, 0), (68, 0, .irem, 0, 0, 0), (69, 22, .istore 5, 0, 0, 0), 
  (71, 1, .iload 5, 0, 0, 0), (73, 1, .aload_n 0, 0, 0, 0), (74, 5, .getfield 36, 4, 4, 0), (77, 5, .getfield 40, 0, 0, 0), (80, 1, .iload 4, 0, 0, 0), 
  (82, 12, .invokevirtual 73, 119, 2, 11), (85, 3, .if_icmp .eq 42, 127, 0, 0), (88, 1, .aload_n 0, 0, 0, 0), (89, 5, .getfield 12, 4, 5, 0), 
  (92, 1, .aload_n 0, 0, 0, 0), (93, 5, .getfield 36, 4, 4, 0), (96, 5, .getfield 40, 0, 0, 0), (99, 12, .invokevirtual 43, 133, 2, 11), 
  (102, 1, .aload_n 0, 0, 0, 0), (103, 5, .getfield 12, 4, 5, 0), (106, 1, .iload 4, 0, 0, 0), (108, 1, .iload 5, 0, 0, 0), 
  (110, 12, .invokevirtual 77, 134, 3, 11), (113, 1, .aload_n 0, 0, 0, 0), (114, 1, .iload_n 2, 0, 0, 0), (115, 12, .invokevirtual 51, 51, 2, 5), 
  (118, 3, .ifCond .eq 9, 127, 0, 0), (121, 1, .aload_n 0, 0, 0, 0), (122, 1, .iload_n 3, 0, 0, 0), (123, 1, .iload_n 2, 0, 0, 0), 
  (124, 12, .invokevirtual 81, 54, 3, 5), (127, 22, .iinc 3 1, 0, 0, 0), (130, 3, .goto (-85), 45, 0, 0), (133, 13, .return_, 0, 0, 0)]
/-- TemperDowns$Guess.note(II)V -/
noncomputable def zk54 : List (Nat × zJ) := [
  (0, 1, .aload_n 0, 0, 0, 0), (1, 0, .dup, 0, 0, 0), (2, 5, .getfield 61, 4, 0, 0), (5, 0, .iconst 1, 0, 0, 0), (6, 0, .iadd, 0, 0, 0), 
  (7, 6, .putfield 61, 4, 0, 0), (10, 1, .aload_n 0, 0, 0, 0), (11, 5, .getfield 65, 4, 1, 0), (14, 0, .iconst (-1), 0, 0, 0), 
  (15, 3, .if_icmp .ne 8, 23, 0, 0), (18, 1, .aload_n 0, 0, 0, 0), (19, 1, .iload_n 1, 0, 0, 0), (20, 6, .putfield 65, 4, 1, 0), 
  (23, 0, .iconst 0, 0, 0, 0), (24, 22, .istore_n 3, 0, 0, 0), (25, 1, .iload_n 3, 0, 0, 0), (26, 1, .aload_n 0, 0, 0, 0), 
  (27, 5, .getfield 35, 4, 3, 0), (30, 5, .getfield 84, 5, 4, 0), (33, 3, .if_icmp .ge 48, 81, 0, 0), (36, 1, .iload_n 2, 0, 0, 0), 
  (37, 0, .bipush 8, 0, 0, 0), (39, 3, .if_icmp .lt 42, 81, 0, 0), (42, 1, .aload_n 0, 0, 0, 0), (43, 5, .getfield 18, 4, 6, 0), 
  (46, 1, .iload_n 3, 0, 0, 0), (47, 12, .invokevirtual 87, 128, 2, 11), (50, 22, .istore 4, 0, 0, 0), (52, 1, .aload_n 0, 0, 0, 0), 
  (53, 5, .getfield 21, 4, 7, 0), (56, 1, .iload_n 3, 0, 0, 0), (57, 0, .iconst 4, 0, 0, 0), (58, 0, .imul, 0, 0, 0), (59, 1, .iload 4, 0, 0, 0), 
  (61, 0, .iconst 5, 0, 0, 0), (62, 0, .ishr, 0, 0, 0), (63, 0, .iadd, 0, 0, 0), (64, 0, .dup2, 0, 0, 0), (65, 7, .iaload, 0, 0, 0), 
  (66, 0, .iconst 1, 0, 0, 0), (67, 1, .iload 4, 0, 0, 0), (69, 0, .bipush 31, 0, 0, 0), (71, 0, .iand, 0, 0, 0), (72, 0, .ishl, 0, 0, 0), 
  (73, 0, .ior, 0, 0, 0), (74, 8, .iastore, 0, 0, 0), (75, 22, .iinc 3 1, 0, 0, 0), (78, 3, .goto (-53), 25, 0, 0), (81, 13, .return_, 0, 0, 0)]
/-- TemperDowns$Guess.mostUnlike()I -/
noncomputable def zk55 : List (Nat × zJ) := [
  (0, 0, .iconst (-1), 0, 0, 0), (1, 22, .istore_n 1, 0, 0, 0), (2, 0, .iconst 0, 0, 0, 0), (3, 22, .istore_n 2, 0, 0, 0), (4, 1, .iload_n 2, 0, 0, 0), 
  (5, 1, .aload_n 0, 0, 0, 0), (6, 5, .getfield 35, 4, 3, 0), (9, 5, .getfield 84, 5, 4, 0), (12, 3, .if_icmp .ge 36, 48, 0, 0), 
  (15, 1, .aload_n 0, 0, 0, 0), (16, 5, .getfield 61, 4, 0, 0), (19, 3, .ifCond .le 29, 48, 0, 0), (22, 1, .iload_n 1, 0, 0, 0), 
  (23, 0, .iconst (-1), 0, 0, 0), (24, 3, .if_icmp .eq 16, 40, 0, 0), (27, 1, .aload_n 0, 0, 0, 0), (28, 1, .iload_n 2, 0, 0, 0), 
  (29, 12, .invokevirtual 116, 56, 2, 5), (32, 1, .aload_n 0, 0, 0, 0), (33, 1, .iload_n 1, 0, 0, 0), (34, 12, .invokevirtual 116, 56, 2, 5), 
  (37, 3, .if_icmp .le 5, 42, 0, 0), (40, 1, .iload_n 2, 0, 0, 0), (41, 22, .istore_n 1, 0, 0, 0), (42, 22, .iinc 2 1, 0, 0, 0), 
  (45, 3, .goto (-41), 4, 0, 0), (48, 1, .iload_n 1, 0, 0, 0), (49, 13, .ireturn, 0, 0, 0)]
/-- TemperDowns$Guess.unlikeIn(I)I -/
noncomputable def zk56 : List (Nat × zJ) := [
  (0, 0, .iconst 0, 0, 0, 0), (1, 22, .istore_n 2, 0, 0, 0), (2, 0, .iconst 0, 0, 0, 0), (3, 22, .istore_n 3, 0, 0, 0), (4, 1, .iload_n 3, 0, 0, 0), 
  (5, 0, .iconst 4, 0, 0, 0), (6, 3, .if_icmp .ge 25, 31, 0, 0), (9, 1, .iload_n 2, 0, 0, 0), (10, 1, .aload_n 0, 0, 0, 0), 
  (11, 5, .getfield 21, 4, 7, 0), (14, 1, .iload_n 1, 0, 0, 0), (15, 0, .iconst 4, 0, 0, 0), (16, 0, .imul, 0, 0, 0), (17, 1, .iload_n 3, 0, 0, 0), 
  (18, 0, .iadd, 0, 0, 0), (19, 7, .iaload, 0, 0, 0), (20, 12, .invokestatic 111, 332, 1, 0), (23, 0, .iadd, 0, 0, 0), (24, 22, .istore_n 2, 0, 0, 0), 
  (25, 22, .iinc 3 1, 0, 0, 0), (28, 3, .goto (-24), 4, 0, 0), (31, 1, .iload_n 2, 0, 0, 0), (32, 13, .ireturn, 0, 0, 0)]
/-- TemperDowns$Land.<init>()V -/
noncomputable def zk57 : List (Nat × zJ) := [
  (0, 1, .aload_n 0, 0, 0, 0), (1, 19, .invokespecial 3, 0, 0, 0), (4, 1, .aload_n 0, 0, 0, 0), (5, 0, .bipush 7, 0, 0, 0), 
  (7, 11, .newarray .int, 0, 0, 0), (9, 6, .putfield 9, 5, 5, 3), (12, 1, .aload_n 0, 0, 0, 0), (13, 0, .bipush 10, 0, 0, 0), 
  (15, 11, .newarray .int, 0, 0, 0), (17, 6, .putfield 15, 5, 6, 3), (20, 1, .aload_n 0, 0, 0, 0), (21, 10, .new 18, 9, 0, 0), (24, 0, .dup, 0, 0, 0), 
  (25, 12, .invokespecial 20, 107, 1, 99), (28, 6, .putfield 21, 5, 7, 3), (31, 1, .aload_n 0, 0, 0, 0), (32, 10, .new 18, 9, 0, 0), 
  (35, 0, .dup, 0, 0, 0), (36, 12, .invokespecial 20, 107, 1, 99), (39, 6, .putfield 25, 5, 8, 3), (42, 1, .aload_n 0, 0, 0, 0), 
  (43, 0, .bipush 36, 0, 0, 0), (45, 11, .newarray .int, 0, 0, 0), (47, 6, .putfield 28, 5, 9, 3), (50, 1, .aload_n 0, 0, 0, 0), 
  (51, 0, .bipush 36, 0, 0, 0), (53, 11, .newarray .int, 0, 0, 0), (55, 6, .putfield 31, 5, 10, 3), (58, 1, .aload_n 0, 0, 0, 0), 
  (59, 12, .invokevirtual 34, 58, 1, 6), (62, 13, .return_, 0, 0, 0)]
/-- TemperDowns$Land.clear()V -/
noncomputable def zk58 : List (Nat × zJ) := [
  (0, 1, .aload_n 0, 0, 0, 0), (1, 0, .iconst 0, 0, 0, 0), (2, 6, .putfield 37, 5, 3, 0), (5, 1, .aload_n 0, 0, 0, 0), (6, 0, .iconst 0, 0, 0, 0), 
  (7, 6, .putfield 41, 5, 4, 0), (10, 1, .aload_n 0, 0, 0, 0), (11, 5, .getfield 21, 5, 7, 0), (14, 12, .invokevirtual 44, 108, 1, 10), 
  (17, 1, .aload_n 0, 0, 0, 0), (18, 5, .getfield 25, 5, 8, 0), (21, 12, .invokevirtual 44, 108, 1, 10), (24, 1, .aload_n 0, 0, 0, 0), 
  (25, 0, .iconst 4, 0, 0, 0), (26, 0, .iconst 4, 0, 0, 0), (27, 12, .invokevirtual 45, 59, 3, 6), (30, 13, .return_, 0, 0, 0)]
/-- TemperDowns$Land.measure(II)V -/
noncomputable def zk59 : List (Nat × zJ) := [
  (0, 1, .aload_n 0, 0, 0, 0), (1, 1, .iload_n 1, 0, 0, 0), (2, 6, .putfield 49, 5, 0, 0), (5, 1, .aload_n 0, 0, 0, 0), (6, 1, .iload_n 2, 0, 0, 0), 
  (7, 6, .putfield 52, 5, 1, 0), (10, 1, .aload_n 0, 0, 0, 0), (11, 1, .iload_n 1, 0, 0, 0), (12, 1, .iload_n 2, 0, 0, 0), (13, 0, .imul, 0, 0, 0), 
  (14, 6, .putfield 55, 5, 2, 0), (17, 0, .iconst 0, 0, 0, 0), (18, 22, .istore_n 3, 0, 0, 0), (19, 0, .iconst 0, 0, 0, 0), 
  (20, 22, .istore 4, 0, 0, 0), (22, 1, .iload 4, 0, 0, 0), (24, 1, .iload_n 2, 0, 0, 0), (25, 3, .if_icmp .ge 49, 74, 0, 0), 
  (28, 0, .iconst 0, 0, 0, 0), (29, 22, .istore 5, 0, 0, 0), (31, 1, .iload 5, 0, 0, 0), (33, 1, .iload_n 1, 0, 0, 0), 
  (34, 3, .if_icmp .ge 34, 68, 0, 0), (37, 1, .iload_n 3, 0, 0, 0), (38, 0, .bipush 36, 0, 0, 0), (40, 3, .if_icmp .ge 28, 68, 0, 0), 
  (43, 1, .aload_n 0, 0, 0, 0), (44, 5, .getfield 28, 5, 9, 0), (47, 1, .iload_n 3, 0, 0, 0), (48, 1, .iload 5, 0, 0, 0), (50, 8, .iastore, 0, 0, 0), 
  (51, 1, .aload_n 0, 0, 0, 0), (52, 5, .getfield 31, 5, 10, 0), (55, 1, .iload_n 3, 0, 0, 0), (56, 1, .iload 4, 0, 0, 0), (58, 8, .iastore, 0, 0, 0), 
  (59, 22, .iinc 3 1, 0, 0, 0), (62, 22, .iinc 5 1, 0, 0, 0), (65, 3, .goto (-34), 31, 0, 0), (68, 22, .iinc 4 1, 0, 0, 0), 
  (71, 3, .goto (-49), 22, 0, 0), (74, 13, .return_, 0, 0, 0)]
/-- TemperDowns$Land.far(II)I -/
noncomputable def zk60 : List (Nat × zJ) := [
  (0, 1, .aload_n 0, 0, 0, 0), (1, 5, .getfield 28, 5, 9, 0), (4, 1, .iload_n 1, 0, 0, 0), (5, 7, .iaload, 0, 0, 0), (6, 1, .aload_n 0, 0, 0, 0), 
  (7, 5, .getfield 28, 5, 9, 0), (10, 1, .iload_n 2, 0, 0, 0), (11, 7, .iaload, 0, 0, 0), (12, 0, .isub, 0, 0, 0), (13, 22, .istore_n 3, 0, 0, 0), 
  (14, 1, .aload_n 0, 0, 0, 0), (15, 5, .getfield 31, 5, 10, 0), (18, 1, .iload_n 1, 0, 0, 0), (19, 7, .iaload, 0, 0, 0), (20, 1, .aload_n 0, 0, 0, 0), 
  (21, 5, .getfield 31, 5, 10, 0), (24, 1, .iload_n 2, 0, 0, 0), (25, 7, .iaload, 0, 0, 0), (26, 0, .isub, 0, 0, 0), (27, 22, .istore 4, 0, 0, 0), 
  (29, 1, .iload_n 3, 0, 0, 0), (30, 3, .ifCond .ge 8, 38, 0, 0), (33, 1, .iload_n 3, 0, 0, 0), (34, 0, .ineg, 0, 0, 0), (35, 3, .goto 4, 39, 0, 0), 
  (38, 1, .iload_n 3, 0, 0, 0), (39, 1, .iload 4, 0, 0, 0), (41, 3, .ifCond .ge 9, 50, 0, 0), (44, 1, .iload 4, 0, 0, 0), (46, 0, .ineg, 0, 0, 0), 
  (47, 3, .goto 5, 52, 0, 0), (50, 1, .iload 4, 0, 0, 0), (52, 0, .iadd, 0, 0, 0), (53, 13, .ireturn, 0, 0, 0)]
/-- TemperDowns$Land.copyFrom(LTemperDowns$Land;)V -/
noncomputable def zk61 : List (Nat × zJ) := [
  (0, 1, .aload_n 0, 0, 0, 0), (1, 1, .aload_n 1, 0, 0, 0), (2, 5, .getfield 49, 5, 0, 0), (5, 1, .aload_n 1, 0, 0, 0), (6, 5, .getfield 52, 5, 1, 0), 
  (9, 12, .invokevirtual 45, 59, 3, 6), (12, 1, .aload_n 0, 0, 0, 0), (13, 1, .aload_n 1, 0, 0, 0), (14, 5, .getfield 37, 5, 3, 0), 
  (17, 6, .putfield 37, 5, 3, 0), (20, 1, .aload_n 0, 0, 0, 0), (21, 1, .aload_n 1, 0, 0, 0), (22, 5, .getfield 41, 5, 4, 0), 
  (25, 6, .putfield 41, 5, 4, 0), (28, 1, .aload_n 1, 0, 0, 0), (29, 5, .getfield 9, 5, 5, 0), (32, 0, .iconst 0, 0, 0, 0), 
  (33, 1, .aload_n 0, 0, 0, 0), (34, 5, .getfield 9, 5, 5, 0), (37, 0, .iconst 0, 0, 0, 0), (38, 0, .bipush 7, 0, 0, 0), 
  (40, 15, .invokestatic 58, 0, 0, 0), (43, 1, .aload_n 1, 0, 0, 0), (44, 5, .getfield 15, 5, 6, 0), (47, 0, .iconst 0, 0, 0, 0), 
  (48, 1, .aload_n 0, 0, 0, 0), (49, 5, .getfield 15, 5, 6, 0), (52, 0, .iconst 0, 0, 0, 0), (53, 0, .bipush 10, 0, 0, 0), 
  (55, 15, .invokestatic 58, 0, 0, 0), (58, 1, .aload_n 0, 0, 0, 0), (59, 5, .getfield 21, 5, 7, 0), (62, 1, .aload_n 1, 0, 0, 0), 
  (63, 5, .getfield 21, 5, 7, 0), (66, 12, .invokevirtual 64, 114, 2, 10), (69, 1, .aload_n 0, 0, 0, 0), (70, 5, .getfield 25, 5, 8, 0), 
  (73, 1, .aload_n 1, 0, 0, 0), (74, 5, .getfield 25, 5, 8, 0), (77, 12, .invokevirtual 64, 114, 2, 10), (80, 13, .return_, 0, 0, 0)]
/-- TemperDowns$Plans.<init>(LTemperDowns$Downs;LTemperDowns$Scene;)V -/
noncomputable def zk62 : List (Nat × zJ) := [
  (0, 1, .aload_n 0, 0, 0, 0), (1, 19, .invokespecial 3, 0, 0, 0), (4, 1, .aload_n 0, 0, 0, 0), (5, 0, .bipush 10, 0, 0, 0), 
  (7, 11, .newarray .int, 0, 0, 0), (9, 6, .putfield 9, 6, 3, 3), (12, 1, .aload_n 0, 0, 0, 0), (13, 0, .bipush 36, 0, 0, 0), 
  (15, 11, .newarray .int, 0, 0, 0), (17, 6, .putfield 15, 6, 4, 3), (20, 1, .aload_n 0, 0, 0, 0), (21, 0, .bipush 36, 0, 0, 0), 
  (23, 11, .newarray .int, 0, 0, 0), (25, 6, .putfield 18, 6, 5, 3), (28, 1, .aload_n 0, 0, 0, 0), (29, 1, .aload_n 1, 0, 0, 0), 
  (30, 6, .putfield 21, 6, 0, 3), (33, 1, .aload_n 0, 0, 0, 0), (34, 1, .aload_n 1, 0, 0, 0), (35, 5, .getfield 25, 2, 0, 0), 
  (38, 6, .putfield 31, 6, 1, 3), (41, 1, .aload_n 0, 0, 0, 0), (42, 1, .aload_n 2, 0, 0, 0), (43, 6, .putfield 32, 6, 2, 3), 
  (46, 13, .return_, 0, 0, 0)]
/-- TemperDowns$Plans.allAtOnce()I -/
noncomputable def zk63 : List (Nat × zJ) := [
  (0, 0, .iconst 0, 0, 0, 0), (1, 22, .istore_n 1, 0, 0, 0), (2, 1, .aload_n 0, 0, 0, 0), (3, 5, .getfield 21, 6, 0, 0), (6, 1, .aload_n 0, 0, 0, 0), 
  (7, 5, .getfield 32, 6, 2, 0), (10, 12, .invokevirtual 36, 24, 2, 3), (13, 0, .iconst 0, 0, 0, 0), (14, 22, .istore_n 2, 0, 0, 0), 
  (15, 1, .iload_n 2, 0, 0, 0), (16, 1, .aload_n 0, 0, 0, 0), (17, 5, .getfield 31, 6, 1, 0), (20, 5, .getfield 40, 5, 4, 0), 
  (23, 3, .if_icmp .ge 49, 72, 0, 0), (26, 1, .aload_n 0, 0, 0, 0), (27, 5, .getfield 9, 6, 3, 0), (30, 1, .iload_n 2, 0, 0, 0), 
  (31, 1, .aload_n 0, 0, 0, 0), (32, 5, .getfield 21, 6, 0, 0), (35, 0, .iconst 1, 0, 0, 0), (36, 1, .iload_n 2, 0, 0, 0), (37, 0, .ishl, 0, 0, 0), 
  (38, 1, .aload_n 0, 0, 0, 0), (39, 5, .getfield 32, 6, 2, 0), (42, 12, .invokevirtual 46, 130, 1, 11), (45, 12, .invokevirtual 52, 28, 3, 3), 
  (48, 8, .iastore, 0, 0, 0), (49, 1, .aload_n 0, 0, 0, 0), (50, 5, .getfield 32, 6, 2, 0), (53, 1, .iload_n 2, 0, 0, 0), 
  (54, 12, .invokevirtual 56, 136, 2, 11), (57, 3, .ifCond .eq 9, 66, 0, 0), (60, 1, .iload_n 1, 0, 0, 0), (61, 0, .iconst 1, 0, 0, 0), 
  (62, 1, .iload_n 2, 0, 0, 0), (63, 0, .ishl, 0, 0, 0), (64, 0, .ior, 0, 0, 0), (65, 22, .istore_n 1, 0, 0, 0), (66, 22, .iinc 2 1, 0, 0, 0), 
  (69, 3, .goto (-54), 15, 0, 0), (72, 1, .iload_n 1, 0, 0, 0), (73, 22, .istore_n 2, 0, 0, 0), (74, 0, .iconst 0, 0, 0, 0), 
  (75, 22, .istore_n 3, 0, 0, 0), (76, 1, .iload_n 3, 0, 0, 0), (77, 0, .sipush 1024, 0, 0, 0), (80, 3, .if_icmp .ge 39, 119, 0, 0), 
  (83, 1, .iload_n 3, 0, 0, 0), (84, 1, .iload_n 1, 0, 0, 0), (85, 0, .iconst (-1), 0, 0, 0), (86, 0, .ixor, 0, 0, 0), (87, 0, .iand, 0, 0, 0), 
  (88, 3, .ifCond .ne 25, 113, 0, 0), (91, 1, .iload_n 3, 0, 0, 0), (92, 12, .invokestatic 60, 332, 1, 0), (95, 1, .iload_n 2, 0, 0, 0), 
  (96, 12, .invokestatic 60, 332, 1, 0), (99, 3, .if_icmp .ge 14, 113, 0, 0), (102, 1, .aload_n 0, 0, 0, 0), (103, 1, .iload_n 3, 0, 0, 0), 
  (104, 12, .invokevirtual 66, 64, 2, 7), (107, 1, .iload_n 1, 0, 0, 0), (108, 3, .if_icmp .ne 5, 113, 0, 0), (111, 1, .iload_n 3, 0, 0, 0), 
  (112, 22, .istore_n 2, 0, 0, 0), (113, 22, .iinc 3 1, 0, 0, 0), (116, 3, .goto (-40), 76, 0, 0), (119, 1, .iload_n 2, 0, 0, 0), 
  (120, 13, .ireturn, 0, 0, 0)]
/-- TemperDowns$Plans.together(I)I -/
noncomputable def zk64 : List (Nat × zJ) := [
  (0, 0, .iconst 0, 0, 0, 0), (1, 22, .istore_n 2, 0, 0, 0), (2, 0, .iconst 0, 0, 0, 0), (3, 22, .istore_n 3, 0, 0, 0), (4, 1, .iload_n 3, 0, 0, 0), 
  (5, 1, .aload_n 0, 0, 0, 0), (6, 5, .getfield 31, 6, 1, 0), (9, 5, .getfield 40, 5, 4, 0), (12, 3, .if_icmp .ge 26, 38, 0, 0), 
  (15, 1, .iload_n 1, 0, 0, 0), (16, 0, .iconst 1, 0, 0, 0), (17, 1, .iload_n 3, 0, 0, 0), (18, 0, .ishl, 0, 0, 0), (19, 0, .iand, 0, 0, 0), 
  (20, 3, .ifCond .eq 12, 32, 0, 0), (23, 1, .iload_n 2, 0, 0, 0), (24, 1, .aload_n 0, 0, 0, 0), (25, 5, .getfield 9, 6, 3, 0), 
  (28, 1, .iload_n 3, 0, 0, 0), (29, 7, .iaload, 0, 0, 0), (30, 0, .ior, 0, 0, 0), (31, 22, .istore_n 2, 0, 0, 0), (32, 22, .iinc 3 1, 0, 0, 0), 
  (35, 3, .goto (-31), 4, 0, 0), (38, 1, .iload_n 2, 0, 0, 0), (39, 13, .ireturn, 0, 0, 0)]
/-- TemperDowns$Plans.guardsBetween(II)I -/
noncomputable def zk65 : List (Nat × zJ) := [
  (0, 0, .iconst 1, 0, 0, 0), (1, 1, .iload_n 2, 0, 0, 0), (2, 0, .ishl, 0, 0, 0), (3, 22, .istore_n 3, 0, 0, 0), (4, 1, .aload_n 0, 0, 0, 0), 
  (5, 5, .getfield 21, 6, 0, 0), (8, 1, .aload_n 0, 0, 0, 0), (9, 5, .getfield 32, 6, 2, 0), (12, 1, .iload_n 1, 0, 0, 0), 
  (13, 12, .invokevirtual 69, 35, 3, 3), (16, 22, .istore 4, 0, 0, 0), (18, 1, .iload 4, 0, 0, 0), (20, 1, .iload_n 3, 0, 0, 0), 
  (21, 0, .iand, 0, 0, 0), (22, 3, .ifCond .ne 5, 27, 0, 0), (25, 0, .iconst 0, 0, 0, 0), (26, 13, .ireturn, 0, 0, 0), (27, 1, .iload 4, 0, 0, 0), 
  (29, 1, .iload_n 3, 0, 0, 0), (30, 0, .iconst (-1), 0, 0, 0), (31, 0, .ixor, 0, 0, 0), (32, 0, .iand, 0, 0, 0), (33, 0, .iconst 1, 0, 0, 0), 
  (34, 1, .iload_n 1, 0, 0, 0), (35, 0, .ishl, 0, 0, 0), (36, 0, .iconst (-1), 0, 0, 0), (37, 0, .ixor, 0, 0, 0), (38, 0, .iand, 0, 0, 0), 
  (39, 22, .istore 5, 0, 0, 0), (41, 0, .iconst (-1), 0, 0, 0), (42, 22, .istore 6, 0, 0, 0), (44, 0, .iconst 1, 0, 0, 0), 
  (45, 22, .istore 7, 0, 0, 0), (47, 1, .iload 7, 0, 0, 0), (49, 0, .sipush 1024, 0, 0, 0), (52, 3, .if_icmp .ge 67, 119, 0, 0), 
  (55, 1, .iload 7, 0, 0, 0), (57, 1, .iload 5, 0, 0, 0), (59, 0, .iconst (-1), 0, 0, 0), (60, 0, .ixor, 0, 0, 0), (61, 0, .iand, 0, 0, 0), 
  (62, 3, .ifCond .ne 51, 113, 0, 0), (65, 1, .iload 6, 0, 0, 0), (67, 0, .iconst (-1), 0, 0, 0), (68, 3, .if_icmp .eq 16, 84, 0, 0), 
  (71, 1, .iload 7, 0, 0, 0), (73, 12, .invokestatic 60, 332, 1, 0), (76, 1, .iload 6, 0, 0, 0), (78, 12, .invokestatic 60, 332, 1, 0), 
  (81, 3, .if_icmp .ge 32, 113, 0, 0), (84, 1, .aload_n 0, 0, 0, 0), (85, 5, .getfield 21, 6, 0, 0), (88, 0, .iconst 1, 0, 0, 0), 
  (89, 1, .iload_n 1, 0, 0, 0), (90, 0, .ishl, 0, 0, 0), (91, 1, .aload_n 0, 0, 0, 0), (92, 5, .getfield 32, 6, 2, 0), 
  (95, 12, .invokevirtual 46, 130, 1, 11), (98, 1, .iload 7, 0, 0, 0), (100, 0, .ior, 0, 0, 0), (101, 12, .invokevirtual 52, 28, 3, 3), 
  (104, 1, .iload_n 3, 0, 0, 0), (105, 0, .iand, 0, 0, 0), (106, 3, .ifCond .ne 7, 113, 0, 0), (109, 1, .iload 7, 0, 0, 0), 
  (111, 22, .istore 6, 0, 0, 0), (113, 22, .iinc 7 1, 0, 0, 0), (116, 3, .goto (-69), 47, 0, 0), (119, 1, .iload 6, 0, 0, 0), 
  (121, 13, .ireturn, 0, 0, 0)]
/-- TemperDowns$Plans.bestCellFor(I)I -/
noncomputable def zk66 : List (Nat × zJ) := [
  (0, 1, .aload_n 0, 0, 0, 0), (1, 5, .getfield 32, 6, 2, 0), (4, 1, .iload_n 1, 0, 0, 0), (5, 12, .invokevirtual 85, 124, 2, 11), 
  (8, 22, .istore_n 2, 0, 0, 0), (9, 1, .iload_n 2, 0, 0, 0), (10, 22, .istore_n 3, 0, 0, 0), (11, 1, .aload_n 0, 0, 0, 0), 
  (12, 1, .iload_n 1, 0, 0, 0), (13, 1, .iload_n 2, 0, 0, 0), (14, 12, .invokevirtual 88, 67, 3, 7), (17, 22, .istore 4, 0, 0, 0), 
  (19, 0, .iconst 0, 0, 0, 0), (20, 22, .istore 5, 0, 0, 0), (22, 1, .iload 5, 0, 0, 0), (24, 1, .aload_n 0, 0, 0, 0), (25, 5, .getfield 31, 6, 1, 0), 
  (28, 5, .getfield 91, 5, 2, 0), (31, 3, .if_icmp .ge 61, 92, 0, 0), (34, 1, .aload_n 0, 0, 0, 0), (35, 1, .iload_n 1, 0, 0, 0), 
  (36, 1, .iload 5, 0, 0, 0), (38, 12, .invokevirtual 88, 67, 3, 7), (41, 22, .istore 6, 0, 0, 0), (43, 1, .iload 6, 0, 0, 0), 
  (45, 1, .iload 4, 0, 0, 0), (47, 3, .if_icmp .lt 32, 79, 0, 0), (50, 1, .iload 6, 0, 0, 0), (52, 1, .iload 4, 0, 0, 0), 
  (54, 3, .if_icmp .ne 32, 86, 0, 0), (57, 1, .aload_n 0, 0, 0, 0), (58, 5, .getfield 31, 6, 1, 0), (61, 1, .iload 5, 0, 0, 0), 
  (63, 1, .iload_n 2, 0, 0, 0), (64, 12, .invokevirtual 79, 60, 3, 6), (67, 1, .aload_n 0, 0, 0, 0), (68, 5, .getfield 31, 6, 1, 0), 
  (71, 1, .iload_n 3, 0, 0, 0), (72, 1, .iload_n 2, 0, 0, 0), (73, 12, .invokevirtual 79, 60, 3, 6), (76, 3, .if_icmp .ge 10, 86, 0, 0), 
  (79, 1, .iload 5, 0, 0, 0), (81, 22, .istore_n 3, 0, 0, 0), (82, 1, .iload 6, 0, 0, 0), (84, 22, .istore 4, 0, 0, 0), (86, 22, .iinc 5 1, 0, 0, 0), 
  (89, 3, .goto (-67), 22, 0, 0), (92, 1, .iload_n 3, 0, 0, 0), (93, 13, .ireturn, 0, 0, 0)]
/-- TemperDowns$Plans.homesInReach(II)I -/
noncomputable def zk67 : List (Nat × zJ) := [
  (0, 0, .iconst 0, 0, 0, 0), (1, 22, .istore_n 3, 0, 0, 0), (2, 0, .iconst 0, 0, 0, 0), (3, 22, .istore 4, 0, 0, 0), (5, 1, .iload 4, 0, 0, 0), 
  (7, 1, .aload_n 0, 0, 0, 0), (8, 5, .getfield 31, 6, 1, 0), (11, 5, .getfield 73, 5, 3, 0), (14, 3, .if_icmp .ge 44, 58, 0, 0), 
  (17, 1, .aload_n 0, 0, 0, 0), (18, 5, .getfield 31, 6, 1, 0), (21, 1, .iload_n 2, 0, 0, 0), (22, 1, .aload_n 0, 0, 0, 0), 
  (23, 5, .getfield 31, 6, 1, 0), (26, 5, .getfield 76, 5, 5, 0), (29, 1, .iload 4, 0, 0, 0), (31, 7, .iaload, 0, 0, 0), 
  (32, 12, .invokevirtual 79, 60, 3, 6), (35, 1, .aload_n 0, 0, 0, 0), (36, 5, .getfield 32, 6, 2, 0), (39, 1, .iload_n 1, 0, 0, 0), 
  (40, 12, .invokevirtual 82, 128, 2, 11), (43, 0, .bipush 10, 0, 0, 0), (45, 0, .idiv, 0, 0, 0), (46, 3, .if_icmp .gt 6, 52, 0, 0), 
  (49, 22, .iinc 3 1, 0, 0, 0), (52, 22, .iinc 4 1, 0, 0, 0), (55, 3, .goto (-50), 5, 0, 0), (58, 1, .iload_n 3, 0, 0, 0), (59, 13, .ireturn, 0, 0, 0)]
/-- TemperDowns$Plans.stepsBetween(II)I -/
noncomputable def zk68 : List (Nat × zJ) := [
  (0, 1, .iload_n 1, 0, 0, 0), (1, 1, .iload_n 2, 0, 0, 0), (2, 3, .if_icmp .ne 5, 7, 0, 0), (5, 0, .iconst 0, 0, 0, 0), (6, 13, .ireturn, 0, 0, 0), 
  (7, 1, .aload_n 0, 0, 0, 0), (8, 1, .iload_n 2, 0, 0, 0), (9, 12, .invokevirtual 94, 69, 2, 7), (12, 3, .ifCond .eq 5, 17, 0, 0), 
  (15, 0, .iconst (-1), 0, 0, 0), (16, 13, .ireturn, 0, 0, 0), (17, 1, .aload_n 0, 0, 0, 0), (18, 1, .iload_n 2, 0, 0, 0), 
  (19, 1, .iload_n 1, 0, 0, 0), (20, 12, .invokevirtual 97, 70, 3, 7), (23, 1, .aload_n 0, 0, 0, 0), (24, 5, .getfield 15, 6, 4, 0), 
  (27, 1, .iload_n 1, 0, 0, 0), (28, 7, .iaload, 0, 0, 0), (29, 13, .ireturn, 0, 0, 0)]
/-- TemperDowns$Plans.isBarred(I)Z -/
noncomputable def zk69 : List (Nat × zJ) := [
  (0, 0, .iconst 0, 0, 0, 0), (1, 22, .istore_n 2, 0, 0, 0), (2, 1, .iload_n 2, 0, 0, 0), (3, 1, .aload_n 0, 0, 0, 0), (4, 5, .getfield 31, 6, 1, 0), 
  (7, 5, .getfield 40, 5, 4, 0), (10, 3, .if_icmp .ge 34, 44, 0, 0), (13, 1, .aload_n 0, 0, 0, 0), (14, 5, .getfield 32, 6, 2, 0), 
  (17, 1, .iload_n 2, 0, 0, 0), (18, 12, .invokevirtual 85, 124, 2, 11), (21, 1, .iload_n 1, 0, 0, 0), (22, 3, .if_icmp .ne 16, 38, 0, 0), 
  (25, 1, .aload_n 0, 0, 0, 0), (26, 5, .getfield 32, 6, 2, 0), (29, 1, .iload_n 2, 0, 0, 0), (30, 12, .invokevirtual 104, 123, 2, 11), 
  (33, 3, .ifCond .ne 5, 38, 0, 0), (36, 0, .iconst 1, 0, 0, 0), (37, 13, .ireturn, 0, 0, 0), (38, 22, .iinc 2 1, 0, 0, 0), 
  (41, 3, .goto (-39), 2, 0, 0), (44, 0, .iconst 0, 0, 0, 0), (45, 13, .ireturn, 0, 0, 0)]
/-- TemperDowns$Plans.walkBackFrom(II)V -/
noncomputable def zk70 : List (Nat × zJ) := [
  (0, 0, .iconst 0, 0, 0, 0), (1, 22, .istore_n 3, 0, 0, 0), (2, 1, .iload_n 3, 0, 0, 0), (3, 1, .aload_n 0, 0, 0, 0), (4, 5, .getfield 31, 6, 1, 0), 
  (7, 5, .getfield 91, 5, 2, 0), (10, 3, .if_icmp .ge 16, 26, 0, 0), (13, 1, .aload_n 0, 0, 0, 0), (14, 5, .getfield 15, 6, 4, 0), 
  (17, 1, .iload_n 3, 0, 0, 0), (18, 0, .iconst (-1), 0, 0, 0), (19, 8, .iastore, 0, 0, 0), (20, 22, .iinc 3 1, 0, 0, 0), 
  (23, 3, .goto (-21), 2, 0, 0), (26, 1, .aload_n 0, 0, 0, 0), (27, 5, .getfield 15, 6, 4, 0), (30, 1, .iload_n 1, 0, 0, 0), 
  (31, 0, .iconst 0, 0, 0, 0), (32, 8, .iastore, 0, 0, 0), (33, 1, .aload_n 0, 0, 0, 0), (34, 5, .getfield 18, 6, 5, 0), (37, 0, .iconst 0, 0, 0, 0), 
  (38, 1, .iload_n 1, 0, 0, 0), (39, 8, .iastore, 0, 0, 0), (40, 0, .iconst 1, 0, 0, 0), (41, 22, .istore_n 3, 0, 0, 0), (42, 0, .iconst 0, 0, 0, 0), 
  (43, 22, .istore 4, 0, 0, 0), (45, 1, .iload 4, 0, 0, 0), (47, 1, .iload_n 3, 0, 0, 0), (48, 3, .if_icmp .ge 126, 174, 0, 0), 
  (51, 1, .iload 4, 0, 0, 0), (53, 1, .aload_n 0, 0, 0, 0), (54, 5, .getfield 31, 6, 1, 0), (57, 5, .getfield 91, 5, 2, 0), 
  (60, 3, .if_icmp .ge 114, 174, 0, 0), (63, 0, .iconst 0, 0, 0, 0), (64, 22, .istore 5, 0, 0, 0), (66, 1, .iload 5, 0, 0, 0), 
  (68, 1, .aload_n 0, 0, 0, 0), (69, 5, .getfield 31, 6, 1, 0), (72, 5, .getfield 91, 5, 2, 0), (75, 3, .if_icmp .ge 93, 168, 0, 0), 
  (78, 1, .iload_n 3, 0, 0, 0), (79, 0, .bipush 36, 0, 0, 0), (81, 3, .if_icmp .ge 87, 168, 0, 0), (84, 1, .aload_n 0, 0, 0, 0), 
  (85, 5, .getfield 15, 6, 4, 0), (88, 1, .iload 5, 0, 0, 0), (90, 7, .iaload, 0, 0, 0), (91, 0, .iconst (-1), 0, 0, 0), 
  (92, 3, .if_icmp .ne 70, 162, 0, 0), (95, 1, .aload_n 0, 0, 0, 0), (96, 5, .getfield 31, 6, 1, 0), (99, 1, .aload_n 0, 0, 0, 0), 
  (100, 5, .getfield 18, 6, 5, 0), (103, 1, .iload 4, 0, 0, 0), (105, 7, .iaload, 0, 0, 0), (106, 1, .iload 5, 0, 0, 0), 
  (108, 12, .invokevirtual 79, 60, 3, 6), (111, 0, .iconst 1, 0, 0, 0), (112, 3, .if_icmp .ne 50, 162, 0, 0), (115, 1, .iload 5, 0, 0, 0), 
  (117, 1, .iload_n 2, 0, 0, 0), (118, 3, .if_icmp .eq 12, 130, 0, 0), (121, 1, .aload_n 0, 0, 0, 0), (122, 1, .iload 5, 0, 0, 0), 
  (124, 12, .invokevirtual 94, 69, 2, 7), (127, 3, .ifCond .ne 35, 162, 0, 0), (130, 1, .aload_n 0, 0, 0, 0), (131, 5, .getfield 15, 6, 4, 0), 
  (134, 1, .iload 5, 0, 0, 0), (136, 1, .aload_n 0, 0, 0, 0), (137, 5, .getfield 15, 6, 4, 0), (140, 1, .aload_n 0, 0, 0, 0), 
  (141, 5, .getfield 18, 6, 5, 0), (144, 1, .iload 4, 0, 0, 0), (146, 7, .iaload, 0, 0, 0), (147, 7, .iaload, 0, 0, 0), (148, 0, .iconst 1, 0, 0, 0), 
  (149, 0, .iadd, 0, 0, 0), (150, 8, .iastore, 0, 0, 0), (151, 1, .aload_n 0, 0, 0, 0), (152, 5, .getfield 18, 6, 5, 0), (155, 1, .iload_n 3, 0, 0, 0), 
  (156, 1, .iload 5, 0, 0, 0), (158, 8, .iastore, 0, 0, 0), (159, 22, .iinc 3 1, 0, 0, 0), (162, 22, .iinc 5 1, 0, 0, 0), 
  (165, 3, .goto (-99), 66, 0, 0), (168, 22, .iinc 4 1, 0, 0, 0), (171, 3, .goto (-126), 45, 0, 0), (174, 13, .return_, 0, 0, 0)]
/-- TemperDowns$Plans.firstStep(II)I -/
noncomputable def zk71 : List (Nat × zJ) := [
  (0, 1, .aload_n 0, 0, 0, 0), (1, 1, .iload_n 1, 0, 0, 0), (2, 1, .iload_n 2, 0, 0, 0), (3, 12, .invokevirtual 101, 68, 3, 7), 
  (6, 22, .istore_n 3, 0, 0, 0), (7, 1, .iload_n 3, 0, 0, 0), (8, 0, .iconst 1, 0, 0, 0), (9, 3, .if_icmp .ge 5, 14, 0, 0), 
  (12, 0, .iconst (-1), 0, 0, 0), (13, 13, .ireturn, 0, 0, 0), (14, 0, .iconst 0, 0, 0, 0), (15, 22, .istore 4, 0, 0, 0), (17, 1, .iload 4, 0, 0, 0), 
  (19, 1, .aload_n 0, 0, 0, 0), (20, 5, .getfield 31, 6, 1, 0), (23, 5, .getfield 91, 5, 2, 0), (26, 3, .if_icmp .ge 39, 65, 0, 0), 
  (29, 1, .aload_n 0, 0, 0, 0), (30, 5, .getfield 31, 6, 1, 0), (33, 1, .iload 4, 0, 0, 0), (35, 1, .iload_n 1, 0, 0, 0), 
  (36, 12, .invokevirtual 79, 60, 3, 6), (39, 0, .iconst 1, 0, 0, 0), (40, 3, .if_icmp .ne 19, 59, 0, 0), (43, 1, .aload_n 0, 0, 0, 0), 
  (44, 5, .getfield 15, 6, 4, 0), (47, 1, .iload 4, 0, 0, 0), (49, 7, .iaload, 0, 0, 0), (50, 1, .iload_n 3, 0, 0, 0), (51, 0, .iconst 1, 0, 0, 0), 
  (52, 0, .isub, 0, 0, 0), (53, 3, .if_icmp .ne 6, 59, 0, 0), (56, 1, .iload 4, 0, 0, 0), (58, 13, .ireturn, 0, 0, 0), (59, 22, .iinc 4 1, 0, 0, 0), 
  (62, 3, .goto (-45), 17, 0, 0), (65, 0, .iconst (-1), 0, 0, 0), (66, 13, .ireturn, 0, 0, 0)]
/-- TemperDowns$PutBy.<init>(LTemperDowns$Land;LTemperDowns$Scene;)V -/
noncomputable def zk72 : List (Nat × zJ) := [
  (0, 1, .aload_n 0, 0, 0, 0), (1, 19, .invokespecial 3, 0, 0, 0), (4, 1, .aload_n 0, 0, 0, 0), (5, 0, .bipush 7, 0, 0, 0), 
  (7, 11, .newarray .int, 0, 0, 0), (9, 6, .putfield 9, 7, 2, 3), (12, 1, .aload_n 0, 0, 0, 0), (13, 0, .bipush 7, 0, 0, 0), 
  (15, 11, .newarray .int, 0, 0, 0), (17, 6, .putfield 15, 7, 5, 3), (20, 1, .aload_n 0, 0, 0, 0), (21, 0, .bipush 10, 0, 0, 0), 
  (23, 11, .newarray .int, 0, 0, 0), (25, 6, .putfield 18, 7, 6, 3), (28, 1, .aload_n 0, 0, 0, 0), (29, 1, .aload_n 1, 0, 0, 0), 
  (30, 6, .putfield 21, 7, 3, 3), (33, 1, .aload_n 0, 0, 0, 0), (34, 1, .aload_n 2, 0, 0, 0), (35, 6, .putfield 25, 7, 4, 3), 
  (38, 13, .return_, 0, 0, 0)]
/-- TemperDowns$PutBy.choose()V -/
noncomputable def zk73 : List (Nat × zJ) := [
  (0, 1, .aload_n 0, 0, 0, 0), (1, 12, .invokevirtual 29, 74, 1, 8), (4, 1, .aload_n 0, 0, 0, 0), (5, 12, .invokevirtual 32, 75, 1, 8), 
  (8, 1, .aload_n 0, 0, 0, 0), (9, 0, .iconst 0, 0, 0, 0), (10, 6, .putfield 35, 7, 0, 0), (13, 1, .aload_n 0, 0, 0, 0), (14, 0, .iconst 0, 0, 0, 0), 
  (15, 6, .putfield 39, 7, 1, 0), (18, 1, .aload_n 0, 0, 0, 0), (19, 12, .invokevirtual 42, 76, 1, 8), (22, 22, .istore_n 1, 0, 0, 0), 
  (23, 1, .aload_n 0, 0, 0, 0), (24, 12, .invokevirtual 46, 77, 1, 8), (27, 22, .istore_n 2, 0, 0, 0), (28, 1, .aload_n 0, 0, 0, 0), 
  (29, 1, .iload_n 1, 0, 0, 0), (30, 1, .iload_n 2, 0, 0, 0), (31, 12, .invokevirtual 49, 78, 3, 8), (34, 22, .istore_n 3, 0, 0, 0), 
  (35, 0, .iconst 0, 0, 0, 0), (36, 22, .istore 4, 0, 0, 0), (38, 1, .iload 4, 0, 0, 0), (40, 1, .aload_n 0, 0, 0, 0), (41, 5, .getfield 21, 7, 3, 0), 
  (44, 5, .getfield 53, 5, 3, 0), (47, 3, .if_icmp .ge 78, 125, 0, 0), (50, 1, .aload_n 0, 0, 0, 0), (51, 5, .getfield 9, 7, 2, 0), 
  (54, 1, .iload 4, 0, 0, 0), (56, 0, .iconst (-1), 0, 0, 0), (57, 8, .iastore, 0, 0, 0), (58, 1, .iload_n 1, 0, 0, 0), (59, 0, .iconst 1, 0, 0, 0), 
  (60, 1, .iload 4, 0, 0, 0), (62, 0, .ishl, 0, 0, 0), (63, 0, .iand, 0, 0, 0), (64, 3, .ifCond .eq 55, 119, 0, 0), (67, 1, .iload_n 1, 0, 0, 0), 
  (68, 0, .iconst 1, 0, 0, 0), (69, 1, .iload 4, 0, 0, 0), (71, 0, .ishl, 0, 0, 0), (72, 0, .iconst (-1), 0, 0, 0), (73, 0, .ixor, 0, 0, 0), 
  (74, 0, .iand, 0, 0, 0), (75, 22, .istore_n 1, 0, 0, 0), (76, 1, .aload_n 0, 0, 0, 0), (77, 1, .iload 4, 0, 0, 0), (79, 1, .iload_n 1, 0, 0, 0), 
  (80, 1, .iload_n 2, 0, 0, 0), (81, 1, .iload_n 3, 0, 0, 0), (82, 12, .invokevirtual 58, 80, 5, 8), (85, 22, .istore 5, 0, 0, 0), 
  (87, 1, .iload 5, 0, 0, 0), (89, 0, .iconst (-1), 0, 0, 0), (90, 3, .if_icmp .eq 29, 119, 0, 0), (93, 1, .aload_n 0, 0, 0, 0), 
  (94, 1, .iload 4, 0, 0, 0), (96, 1, .iload 5, 0, 0, 0), (98, 12, .invokevirtual 62, 81, 3, 8), (101, 1, .iload_n 2, 0, 0, 0), 
  (102, 0, .iconst 1, 0, 0, 0), (103, 1, .iload 5, 0, 0, 0), (105, 0, .ishl, 0, 0, 0), (106, 0, .iconst (-1), 0, 0, 0), (107, 0, .ixor, 0, 0, 0), 
  (108, 0, .iand, 0, 0, 0), (109, 22, .istore_n 2, 0, 0, 0), (110, 1, .iload_n 3, 0, 0, 0), (111, 1, .aload_n 0, 0, 0, 0), (112, 1, .iload 5, 0, 0, 0), 
  (114, 12, .invokevirtual 66, 79, 2, 8), (117, 0, .isub, 0, 0, 0), (118, 22, .istore_n 3, 0, 0, 0), (119, 22, .iinc 4 1, 0, 0, 0), 
  (122, 3, .goto (-84), 38, 0, 0), (125, 13, .return_, 0, 0, 0)]
/-- TemperDowns$PutBy.sortPeople()V -/
noncomputable def zk74 : List (Nat × zJ) := [
  (0, 0, .iconst 0, 0, 0, 0), (1, 22, .istore_n 1, 0, 0, 0), (2, 1, .iload_n 1, 0, 0, 0), (3, 1, .aload_n 0, 0, 0, 0), (4, 5, .getfield 21, 7, 3, 0), 
  (7, 5, .getfield 53, 5, 3, 0), (10, 3, .if_icmp .ge 68, 78, 0, 0), (13, 1, .iload_n 1, 0, 0, 0), (14, 22, .istore_n 2, 0, 0, 0), 
  (15, 1, .iload_n 2, 0, 0, 0), (16, 3, .ifCond .le 49, 65, 0, 0), (19, 1, .aload_n 0, 0, 0, 0), (20, 5, .getfield 25, 7, 4, 0), 
  (23, 1, .aload_n 0, 0, 0, 0), (24, 5, .getfield 15, 7, 5, 0), (27, 1, .iload_n 2, 0, 0, 0), (28, 0, .iconst 1, 0, 0, 0), (29, 0, .isub, 0, 0, 0), 
  (30, 7, .iaload, 0, 0, 0), (31, 12, .invokevirtual 73, 118, 2, 11), (34, 1, .aload_n 0, 0, 0, 0), (35, 5, .getfield 25, 7, 4, 0), 
  (38, 1, .iload_n 1, 0, 0, 0), (39, 12, .invokevirtual 73, 118, 2, 11), (42, 3, .if_icmp .le 23, 65, 0, 0), (45, 1, .aload_n 0, 0, 0, 0), 
  (46, 5, .getfield 15, 7, 5, 0), (49, 1, .iload_n 2, 0, 0, 0), (50, 1, .aload_n 0, 0, 0, 0), (51, 5, .getfield 15, 7, 5, 0), 
  (54, 1, .iload_n 2, 0, 0, 0), (55, 0, .iconst 1, 0, 0, 0), (56, 0, .isub, 0, 0, 0), (57, 7, .iaload, 0, 0, 0), (58, 8, .iastore, 0, 0, 0), 
  (59, 22, .iinc 2 (-1), 0, 0, 0), (62, 3, .goto (-47), 15, 0, 0), (65, 1, .aload_n 0, 0, 0, 0), (66, 5, .getfield 15, 7, 5, 0), 
  (69, 1, .iload_n 2, 0, 0, 0), (70, 1, .iload_n 1, 0, 0, 0), (71, 8, .iastore, 0, 0, 0), (72, 22, .iinc 1 1, 0, 0, 0), (75, 3, .goto (-73), 2, 0, 0), 
  (78, 13, .return_, 0, 0, 0)]
/-- TemperDowns$PutBy.sortBalls()V -/
noncomputable def zk75 : List (Nat × zJ) := [
  (0, 0, .iconst 0, 0, 0, 0), (1, 22, .istore_n 1, 0, 0, 0), (2, 1, .iload_n 1, 0, 0, 0), (3, 1, .aload_n 0, 0, 0, 0), (4, 5, .getfield 21, 7, 3, 0), 
  (7, 5, .getfield 78, 5, 4, 0), (10, 3, .if_icmp .ge 70, 80, 0, 0), (13, 1, .iload_n 1, 0, 0, 0), (14, 22, .istore_n 2, 0, 0, 0), 
  (15, 1, .iload_n 2, 0, 0, 0), (16, 3, .ifCond .le 51, 67, 0, 0), (19, 1, .aload_n 0, 0, 0, 0), (20, 5, .getfield 21, 7, 3, 0), 
  (23, 5, .getfield 70, 5, 6, 0), (26, 1, .aload_n 0, 0, 0, 0), (27, 5, .getfield 18, 7, 6, 0), (30, 1, .iload_n 2, 0, 0, 0), 
  (31, 0, .iconst 1, 0, 0, 0), (32, 0, .isub, 0, 0, 0), (33, 7, .iaload, 0, 0, 0), (34, 7, .iaload, 0, 0, 0), (35, 1, .aload_n 0, 0, 0, 0), 
  (36, 5, .getfield 21, 7, 3, 0), (39, 5, .getfield 70, 5, 6, 0), (42, 1, .iload_n 1, 0, 0, 0), (43, 7, .iaload, 0, 0, 0), 
  (44, 3, .if_icmp .le 23, 67, 0, 0), (47, 1, .aload_n 0, 0, 0, 0), (48, 5, .getfield 18, 7, 6, 0), (51, 1, .iload_n 2, 0, 0, 0), 
  (52, 1, .aload_n 0, 0, 0, 0), (53, 5, .getfield 18, 7, 6, 0), (56, 1, .iload_n 2, 0, 0, 0), (57, 0, .iconst 1, 0, 0, 0), (58, 0, .isub, 0, 0, 0), 
  (59, 7, .iaload, 0, 0, 0), (60, 8, .iastore, 0, 0, 0), (61, 22, .iinc 2 (-1), 0, 0, 0), (64, 3, .goto (-49), 15, 0, 0), (67, 1, .aload_n 0, 0, 0, 0), 
  (68, 5, .getfield 18, 7, 6, 0), (71, 1, .iload_n 2, 0, 0, 0), (72, 1, .iload_n 1, 0, 0, 0), (73, 8, .iastore, 0, 0, 0), (74, 22, .iinc 1 1, 0, 0, 0), 
  (77, 3, .goto (-75), 2, 0, 0), (80, 13, .return_, 0, 0, 0)]
/-- TemperDowns$PutBy.crossPeople()I -/
noncomputable def zk76 : List (Nat × zJ) := [
  (0, 0, .iconst 0, 0, 0, 0), (1, 22, .istore_n 1, 0, 0, 0), (2, 0, .iconst 0, 0, 0, 0), (3, 22, .istore_n 2, 0, 0, 0), (4, 1, .iload_n 2, 0, 0, 0), 
  (5, 1, .aload_n 0, 0, 0, 0), (6, 5, .getfield 21, 7, 3, 0), (9, 5, .getfield 53, 5, 3, 0), (12, 3, .if_icmp .ge 26, 38, 0, 0), 
  (15, 1, .aload_n 0, 0, 0, 0), (16, 5, .getfield 25, 7, 4, 0), (19, 1, .iload_n 2, 0, 0, 0), (20, 12, .invokevirtual 73, 118, 2, 11), 
  (23, 3, .ifCond .le 9, 32, 0, 0), (26, 1, .iload_n 1, 0, 0, 0), (27, 0, .iconst 1, 0, 0, 0), (28, 1, .iload_n 2, 0, 0, 0), (29, 0, .ishl, 0, 0, 0), 
  (30, 0, .ior, 0, 0, 0), (31, 22, .istore_n 1, 0, 0, 0), (32, 22, .iinc 2 1, 0, 0, 0), (35, 3, .goto (-31), 4, 0, 0), (38, 1, .iload_n 1, 0, 0, 0), 
  (39, 13, .ireturn, 0, 0, 0)]
/-- TemperDowns$PutBy.whiteBalls()I -/
noncomputable def zk77 : List (Nat × zJ) := [
  (0, 0, .iconst 0, 0, 0, 0), (1, 22, .istore_n 1, 0, 0, 0), (2, 0, .iconst 0, 0, 0, 0), (3, 22, .istore_n 2, 0, 0, 0), (4, 1, .iload_n 2, 0, 0, 0), 
  (5, 1, .aload_n 0, 0, 0, 0), (6, 5, .getfield 21, 7, 3, 0), (9, 5, .getfield 78, 5, 4, 0), (12, 3, .if_icmp .ge 26, 38, 0, 0), 
  (15, 1, .aload_n 0, 0, 0, 0), (16, 5, .getfield 25, 7, 4, 0), (19, 1, .iload_n 2, 0, 0, 0), (20, 12, .invokevirtual 81, 123, 2, 11), 
  (23, 3, .ifCond .eq 9, 32, 0, 0), (26, 1, .iload_n 1, 0, 0, 0), (27, 0, .iconst 1, 0, 0, 0), (28, 1, .iload_n 2, 0, 0, 0), (29, 0, .ishl, 0, 0, 0), 
  (30, 0, .ior, 0, 0, 0), (31, 22, .istore_n 1, 0, 0, 0), (32, 22, .iinc 2 1, 0, 0, 0), (35, 3, .goto (-31), 4, 0, 0), (38, 1, .iload_n 1, 0, 0, 0), 
  (39, 13, .ireturn, 0, 0, 0)]
/-- TemperDowns$PutBy.bestOf(II)I -/
noncomputable def zk78 : List (Nat × zJ) := [
  (0, 0, .iconst 0, 0, 0, 0), (1, 22, .istore_n 3, 0, 0, 0), (2, 0, .iconst 0, 0, 0, 0), (3, 22, .istore 4, 0, 0, 0), (5, 0, .iconst 0, 0, 0, 0), 
  (6, 22, .istore 5, 0, 0, 0), (8, 1, .iload 5, 0, 0, 0), (10, 1, .aload_n 0, 0, 0, 0), (11, 5, .getfield 21, 7, 3, 0), (14, 5, .getfield 78, 5, 4, 0), 
  (17, 3, .if_icmp .ge 110, 127, 0, 0), (20, 1, .aload_n 0, 0, 0, 0), (21, 5, .getfield 18, 7, 6, 0), (24, 1, .iload 5, 0, 0, 0), 
  (26, 7, .iaload, 0, 0, 0), (27, 22, .istore 6, 0, 0, 0), (29, 1, .iload 4, 0, 0, 0), (31, 1, .aload_n 0, 0, 0, 0), (32, 5, .getfield 21, 7, 3, 0), 
  (35, 5, .getfield 53, 5, 3, 0), (38, 3, .if_icmp .ge 23, 61, 0, 0), (41, 1, .iload_n 1, 0, 0, 0), (42, 0, .iconst 1, 0, 0, 0), 
  (43, 1, .aload_n 0, 0, 0, 0), (44, 5, .getfield 15, 7, 5, 0), (47, 1, .iload 4, 0, 0, 0), (49, 7, .iaload, 0, 0, 0), (50, 0, .ishl, 0, 0, 0), 
  (51, 0, .iand, 0, 0, 0), (52, 3, .ifCond .ne 9, 61, 0, 0), (55, 22, .iinc 4 1, 0, 0, 0), (58, 3, .goto (-29), 29, 0, 0), (61, 1, .iload 4, 0, 0, 0), 
  (63, 1, .aload_n 0, 0, 0, 0), (64, 5, .getfield 21, 7, 3, 0), (67, 5, .getfield 53, 5, 3, 0), (70, 3, .if_icmp .ge 51, 121, 0, 0), 
  (73, 1, .iload_n 2, 0, 0, 0), (74, 0, .iconst 1, 0, 0, 0), (75, 1, .iload 6, 0, 0, 0), (77, 0, .ishl, 0, 0, 0), (78, 0, .iand, 0, 0, 0), 
  (79, 3, .ifCond .eq 42, 121, 0, 0), (82, 1, .aload_n 0, 0, 0, 0), (83, 5, .getfield 21, 7, 3, 0), (86, 5, .getfield 70, 5, 6, 0), 
  (89, 1, .iload 6, 0, 0, 0), (91, 7, .iaload, 0, 0, 0), (92, 1, .aload_n 0, 0, 0, 0), (93, 5, .getfield 25, 7, 4, 0), (96, 1, .aload_n 0, 0, 0, 0), 
  (97, 5, .getfield 15, 7, 5, 0), (100, 1, .iload 4, 0, 0, 0), (102, 7, .iaload, 0, 0, 0), (103, 12, .invokevirtual 73, 118, 2, 11), 
  (106, 3, .if_icmp .lt 15, 121, 0, 0), (109, 1, .iload_n 3, 0, 0, 0), (110, 1, .aload_n 0, 0, 0, 0), (111, 1, .iload 6, 0, 0, 0), 
  (113, 12, .invokevirtual 66, 79, 2, 8), (116, 0, .iadd, 0, 0, 0), (117, 22, .istore_n 3, 0, 0, 0), (118, 22, .iinc 4 1, 0, 0, 0), 
  (121, 22, .iinc 5 1, 0, 0, 0), (124, 3, .goto (-116), 8, 0, 0), (127, 1, .iload_n 3, 0, 0, 0), (128, 13, .ireturn, 0, 0, 0)]
/-- TemperDowns$PutBy.worthOf(I)I -/
noncomputable def zk79 : List (Nat × zJ) := [
  (0, 0, .sipush 1000, 0, 0, 0), (3, 1, .aload_n 0, 0, 0, 0), (4, 5, .getfield 21, 7, 3, 0), (7, 5, .getfield 70, 5, 6, 0), 
  (10, 1, .iload_n 1, 0, 0, 0), (11, 7, .iaload, 0, 0, 0), (12, 0, .isub, 0, 0, 0), (13, 13, .ireturn, 0, 0, 0)]
/-- TemperDowns$PutBy.firstFor(IIII)I -/
noncomputable def zk80 : List (Nat × zJ) := [
  (0, 0, .iconst 0, 0, 0, 0), (1, 22, .istore 5, 0, 0, 0), (3, 1, .iload 5, 0, 0, 0), (5, 1, .aload_n 0, 0, 0, 0), (6, 5, .getfield 21, 7, 3, 0), 
  (9, 5, .getfield 78, 5, 4, 0), (12, 3, .if_icmp .ge 67, 79, 0, 0), (15, 1, .iload_n 3, 0, 0, 0), (16, 0, .iconst 1, 0, 0, 0), 
  (17, 1, .iload 5, 0, 0, 0), (19, 0, .ishl, 0, 0, 0), (20, 0, .iand, 0, 0, 0), (21, 3, .ifCond .eq 52, 73, 0, 0), (24, 1, .aload_n 0, 0, 0, 0), 
  (25, 5, .getfield 21, 7, 3, 0), (28, 5, .getfield 70, 5, 6, 0), (31, 1, .iload 5, 0, 0, 0), (33, 7, .iaload, 0, 0, 0), (34, 1, .aload_n 0, 0, 0, 0), 
  (35, 5, .getfield 25, 7, 4, 0), (38, 1, .iload_n 1, 0, 0, 0), (39, 12, .invokevirtual 73, 118, 2, 11), (42, 3, .if_icmp .lt 31, 73, 0, 0), 
  (45, 1, .aload_n 0, 0, 0, 0), (46, 1, .iload 5, 0, 0, 0), (48, 12, .invokevirtual 66, 79, 2, 8), (51, 1, .aload_n 0, 0, 0, 0), 
  (52, 1, .iload_n 2, 0, 0, 0), (53, 1, .iload_n 3, 0, 0, 0), (54, 0, .iconst 1, 0, 0, 0), (55, 1, .iload 5, 0, 0, 0), (57, 0, .ishl, 0, 0, 0), 
  (58, 0, .iconst (-1), 0, 0, 0), (59, 0, .ixor, 0, 0, 0), (60, 0, .iand, 0, 0, 0), (61, 12, .invokevirtual 49, 78, 3, 8), (64, 0, .iadd, 0, 0, 0), 
  (65, 1, .iload 4, 0, 0, 0), (67, 3, .if_icmp .ne 6, 73, 0, 0), (70, 1, .iload 5, 0, 0, 0), (72, 13, .ireturn, 0, 0, 0), (73, 22, .iinc 5 1, 0, 0, 0), 
  (76, 3, .goto (-73), 3, 0, 0), (79, 0, .iconst (-1), 0, 0, 0), (80, 13, .ireturn, 0, 0, 0)]
/-- TemperDowns$PutBy.take(II)V -/
noncomputable def zk81 : List (Nat × zJ) := [
  (0, 1, .aload_n 0, 0, 0, 0), (1, 5, .getfield 9, 7, 2, 0), (4, 1, .iload_n 1, 0, 0, 0), (5, 1, .iload_n 2, 0, 0, 0), (6, 8, .iastore, 0, 0, 0), 
  (7, 1, .aload_n 0, 0, 0, 0), (8, 0, .dup, 0, 0, 0), (9, 5, .getfield 35, 7, 0, 0), (12, 0, .iconst 1, 0, 0, 0), (13, 0, .iadd, 0, 0, 0), 
  (14, 6, .putfield 35, 7, 0, 0), (17, 1, .aload_n 0, 0, 0, 0), (18, 0, .dup, 0, 0, 0), (19, 5, .getfield 39, 7, 1, 0), (22, 1, .aload_n 0, 0, 0, 0), 
  (23, 5, .getfield 21, 7, 3, 0), (26, 5, .getfield 70, 5, 6, 0), (29, 1, .iload_n 2, 0, 0, 0), (30, 7, .iaload, 0, 0, 0), 
  (31, 1, .aload_n 0, 0, 0, 0), (32, 5, .getfield 25, 7, 4, 0), (35, 1, .iload_n 1, 0, 0, 0), (36, 12, .invokevirtual 73, 118, 2, 11), 
  (39, 0, .isub, 0, 0, 0), (40, 0, .iadd, 0, 0, 0), (41, 6, .putfield 39, 7, 1, 0), (44, 13, .return_, 0, 0, 0)]
/-- TemperDowns$Reader.<init>([I)V -/
noncomputable def zk82 : List (Nat × zJ) := [
  (0, 1, .aload_n 0, 0, 0, 0), (1, 19, .invokespecial 3, 0, 0, 0), (4, 1, .aload_n 0, 0, 0, 0), (5, 10, .new 9, 5, 0, 0), (8, 0, .dup, 0, 0, 0), 
  (9, 12, .invokespecial 11, 57, 1, 99), (12, 6, .putfield 12, 8, 0, 3), (15, 1, .aload_n 0, 0, 0, 0), (16, 10, .new 18, 10, 0, 0), 
  (19, 0, .dup, 0, 0, 0), (20, 12, .invokespecial 20, 115, 1, 99), (23, 6, .putfield 21, 8, 1, 3), (26, 1, .aload_n 0, 0, 0, 0), 
  (27, 1, .aload_n 0, 0, 0, 0), (28, 5, .getfield 12, 8, 0, 0), (31, 5, .getfield 25, 5, 7, 0), (34, 6, .putfield 29, 8, 12, 3), 
  (37, 1, .aload_n 0, 0, 0, 0), (38, 1, .aload_n 1, 0, 0, 0), (39, 6, .putfield 32, 8, 4, 3), (42, 13, .return_, 0, 0, 0)]
/-- TemperDowns$Reader.readText(I)I -/
noncomputable def zk83 : List (Nat × zJ) := [
  (0, 1, .aload_n 0, 0, 0, 0), (1, 1, .iload_n 1, 0, 0, 0), (2, 1, .aload_n 0, 0, 0, 0), (3, 5, .getfield 32, 8, 4, 0), (6, 9, .arraylength, 0, 0, 0), 
  (7, 21, .invokestatic 36, 0, 0, 0), (10, 6, .putfield 42, 8, 5, 0), (13, 1, .aload_n 0, 0, 0, 0), (14, 0, .iconst 0, 0, 0, 0), 
  (15, 6, .putfield 46, 8, 7, 0), (18, 1, .aload_n 0, 0, 0, 0), (19, 0, .iconst 0, 0, 0, 0), (20, 6, .putfield 49, 8, 3, 0), 
  (23, 1, .aload_n 0, 0, 0, 0), (24, 0, .iconst (-1), 0, 0, 0), (25, 6, .putfield 52, 8, 2, 0), (28, 1, .aload_n 0, 0, 0, 0), 
  (29, 5, .getfield 12, 8, 0, 0), (32, 12, .invokevirtual 55, 58, 1, 6), (35, 1, .aload_n 0, 0, 0, 0), (36, 5, .getfield 21, 8, 1, 0), 
  (39, 12, .invokevirtual 58, 116, 1, 11), (42, 1, .aload_n 0, 0, 0, 0), (43, 12, .invokevirtual 59, 84, 1, 9), (46, 1, .aload_n 0, 0, 0, 0), 
  (47, 17, .ldc 62, 3, 0, 0), (49, 12, .invokevirtual 64, 87, 2, 9), (52, 3, .ifCond .eq 15, 67, 0, 0), (55, 1, .aload_n 0, 0, 0, 0), 
  (56, 12, .invokevirtual 68, 88, 1, 9), (59, 3, .ifCond .ne 8, 67, 0, 0), (62, 1, .aload_n 0, 0, 0, 0), (63, 5, .getfield 49, 8, 3, 0), 
  (66, 13, .ireturn, 0, 0, 0), (67, 0, .iconst 0, 0, 0, 0), (68, 22, .istore_n 2, 0, 0, 0), (69, 1, .iload_n 2, 0, 0, 0), 
  (70, 0, .sipush 700, 0, 0, 0), (73, 3, .if_icmp .ge 28, 101, 0, 0), (76, 1, .aload_n 0, 0, 0, 0), (77, 5, .getfield 72, 8, 8, 0), 
  (80, 3, .ifCond .eq 21, 101, 0, 0), (83, 1, .aload_n 0, 0, 0, 0), (84, 12, .invokevirtual 75, 93, 1, 9), (87, 3, .ifCond .ne 8, 95, 0, 0), 
  (90, 1, .aload_n 0, 0, 0, 0), (91, 5, .getfield 49, 8, 3, 0), (94, 13, .ireturn, 0, 0, 0), (95, 22, .iinc 2 1, 0, 0, 0), 
  (98, 3, .goto (-29), 69, 0, 0), (101, 1, .aload_n 0, 0, 0, 0), (102, 5, .getfield 49, 8, 3, 0), (105, 13, .ireturn, 0, 0, 0)]
/-- TemperDowns$Reader.nextToken()V -/
noncomputable def zk84 : List (Nat × zJ) := [
  (0, 1, .aload_n 0, 0, 0, 0), (1, 1, .aload_n 0, 0, 0, 0), (2, 5, .getfield 46, 8, 7, 0), (5, 6, .putfield 78, 8, 6, 0), (8, 1, .aload_n 0, 0, 0, 0), 
  (9, 5, .getfield 78, 8, 6, 0), (12, 1, .aload_n 0, 0, 0, 0), (13, 5, .getfield 42, 8, 5, 0), (16, 3, .if_icmp .ge 44, 60, 0, 0), 
  (19, 1, .aload_n 0, 0, 0, 0), (20, 5, .getfield 32, 8, 4, 0), (23, 1, .aload_n 0, 0, 0, 0), (24, 5, .getfield 78, 8, 6, 0), 
  (27, 7, .iaload, 0, 0, 0), (28, 0, .bipush 32, 0, 0, 0), (30, 3, .if_icmp .eq 17, 47, 0, 0), (33, 1, .aload_n 0, 0, 0, 0), 
  (34, 5, .getfield 32, 8, 4, 0), (37, 1, .aload_n 0, 0, 0, 0), (38, 5, .getfield 78, 8, 6, 0), (41, 7, .iaload, 0, 0, 0), 
  (42, 0, .bipush 10, 0, 0, 0), (44, 3, .if_icmp .ne 16, 60, 0, 0), (47, 1, .aload_n 0, 0, 0, 0), (48, 0, .dup, 0, 0, 0), 
  (49, 5, .getfield 78, 8, 6, 0), (52, 0, .iconst 1, 0, 0, 0), (53, 0, .iadd, 0, 0, 0), (54, 6, .putfield 78, 8, 6, 0), (57, 3, .goto (-49), 8, 0, 0), 
  (60, 1, .aload_n 0, 0, 0, 0), (61, 1, .aload_n 0, 0, 0, 0), (62, 5, .getfield 78, 8, 6, 0), (65, 6, .putfield 46, 8, 7, 0), 
  (68, 1, .aload_n 0, 0, 0, 0), (69, 5, .getfield 78, 8, 6, 0), (72, 1, .aload_n 0, 0, 0, 0), (73, 5, .getfield 42, 8, 5, 0), 
  (76, 3, .if_icmp .lt 11, 87, 0, 0), (79, 1, .aload_n 0, 0, 0, 0), (80, 0, .iconst 0, 0, 0, 0), (81, 6, .putfield 72, 8, 8, 0), 
  (84, 3, .goto 217, 301, 0, 0), (87, 1, .aload_n 0, 0, 0, 0), (88, 5, .getfield 32, 8, 4, 0), (91, 1, .aload_n 0, 0, 0, 0), 
  (92, 5, .getfield 78, 8, 6, 0), (95, 7, .iaload, 0, 0, 0), (96, 12, .invokestatic 81, 85, 1, 0), (99, 3, .ifCond .eq 47, 146, 0, 0), 
  (102, 1, .aload_n 0, 0, 0, 0), (103, 0, .iconst 1, 0, 0, 0), (104, 6, .putfield 72, 8, 8, 0), (107, 1, .aload_n 0, 0, 0, 0), 
  (108, 5, .getfield 46, 8, 7, 0), (111, 1, .aload_n 0, 0, 0, 0), (112, 5, .getfield 42, 8, 5, 0), (115, 3, .if_icmp .ge 186, 301, 0, 0), 
  (118, 1, .aload_n 0, 0, 0, 0), (119, 5, .getfield 32, 8, 4, 0), (122, 1, .aload_n 0, 0, 0, 0), (123, 5, .getfield 46, 8, 7, 0), 
  (126, 7, .iaload, 0, 0, 0), (127, 12, .invokestatic 81, 85, 1, 0), (130, 3, .ifCond .eq 171, 301, 0, 0), (133, 1, .aload_n 0, 0, 0, 0), 
  (134, 0, .dup, 0, 0, 0), (135, 5, .getfield 46, 8, 7, 0), (138, 0, .iconst 1, 0, 0, 0), (139, 0, .iadd, 0, 0, 0), (140, 6, .putfield 46, 8, 7, 0), 
  (143, 3, .goto (-36), 107, 0, 0), (146, 1, .aload_n 0, 0, 0, 0), (147, 5, .getfield 32, 8, 4, 0), (150, 1, .aload_n 0, 0, 0, 0), 
  (151, 5, .getfield 78, 8, 6, 0), (154, 7, .iaload, 0, 0, 0), (155, 12, .invokestatic 85, 86, 1, 0), (158, 3, .ifCond .eq 106, 264, 0, 0), 
  (161, 1, .aload_n 0, 0, 0, 0), (162, 0, .iconst 2, 0, 0, 0), (163, 6, .putfield 72, 8, 8, 0), (166, 1, .aload_n 0, 0, 0, 0), 
  (167, 0, .iconst 0, 0, 0, 0), (168, 6, .putfield 88, 8, 9, 0), (171, 1, .aload_n 0, 0, 0, 0), (172, 5, .getfield 46, 8, 7, 0), 
  (175, 1, .aload_n 0, 0, 0, 0), (176, 5, .getfield 42, 8, 5, 0), (179, 3, .if_icmp .ge 60, 239, 0, 0), (182, 1, .aload_n 0, 0, 0, 0), 
  (183, 5, .getfield 32, 8, 4, 0), (186, 1, .aload_n 0, 0, 0, 0), (187, 5, .getfield 46, 8, 7, 0), (190, 7, .iaload, 0, 0, 0), 
  (191, 12, .invokestatic 85, 86, 1, 0), (194, 3, .ifCond .eq 45, 239, 0, 0), (197, 1, .aload_n 0, 0, 0, 0), (198, 1, .aload_n 0, 0, 0, 0), 
  (199, 5, .getfield 88, 8, 9, 0), (202, 0, .bipush 10, 0, 0, 0), (204, 0, .imul, 0, 0, 0), (205, 1, .aload_n 0, 0, 0, 0), 
  (206, 5, .getfield 32, 8, 4, 0), (209, 1, .aload_n 0, 0, 0, 0), (210, 5, .getfield 46, 8, 7, 0), (213, 7, .iaload, 0, 0, 0), 
  (214, 0, .iadd, 0, 0, 0), (215, 0, .bipush 48, 0, 0, 0), (217, 0, .isub, 0, 0, 0), (218, 16, .ldc 91, 99999, 0, 0), 
  (220, 21, .invokestatic 36, 0, 0, 0), (223, 6, .putfield 88, 8, 9, 0), (226, 1, .aload_n 0, 0, 0, 0), (227, 0, .dup, 0, 0, 0), 
  (228, 5, .getfield 46, 8, 7, 0), (231, 0, .iconst 1, 0, 0, 0), (232, 0, .iadd, 0, 0, 0), (233, 6, .putfield 46, 8, 7, 0), 
  (236, 3, .goto (-65), 171, 0, 0), (239, 1, .aload_n 0, 0, 0, 0), (240, 1, .aload_n 0, 0, 0, 0), (241, 5, .getfield 46, 8, 7, 0), 
  (244, 1, .aload_n 0, 0, 0, 0), (245, 5, .getfield 78, 8, 6, 0), (248, 0, .isub, 0, 0, 0), (249, 0, .iconst 4, 0, 0, 0), 
  (250, 3, .if_icmp .le 7, 257, 0, 0), (253, 0, .iconst 1, 0, 0, 0), (254, 3, .goto 4, 258, 0, 0), (257, 0, .iconst 0, 0, 0, 0), 
  (258, 6, .putfield 92, 8, 10, 2), (261, 3, .goto 40, 301, 0, 0), (264, 1, .aload_n 0, 0, 0, 0), (265, 17, .ldc 96, 1, 0, 0), 
  (267, 1, .aload_n 0, 0, 0, 0), (268, 5, .getfield 32, 8, 4, 0), (271, 1, .aload_n 0, 0, 0, 0), (272, 5, .getfield 78, 8, 6, 0), 
  (275, 7, .iaload, 0, 0, 0), (276, 0, .i2c, 0, 0, 0), (277, 12, .invokevirtual 98, 333, 2, 101), (280, 3, .ifCond .lt 7, 287, 0, 0), 
  (283, 0, .iconst 3, 0, 0, 0), (284, 3, .goto 4, 288, 0, 0), (287, 0, .iconst 4, 0, 0, 0), (288, 6, .putfield 72, 8, 8, 0), 
  (291, 1, .aload_n 0, 0, 0, 0), (292, 0, .dup, 0, 0, 0), (293, 5, .getfield 46, 8, 7, 0), (296, 0, .iconst 1, 0, 0, 0), (297, 0, .iadd, 0, 0, 0), 
  (298, 6, .putfield 46, 8, 7, 0), (301, 13, .return_, 0, 0, 0)]
/-- TemperDowns$Reader.isLetter(I)Z -/
noncomputable def zk85 : List (Nat × zJ) := [
  (0, 1, .iload_n 0, 0, 0, 0), (1, 0, .bipush 97, 0, 0, 0), (3, 3, .if_icmp .lt 13, 16, 0, 0), (6, 1, .iload_n 0, 0, 0, 0), 
  (7, 0, .bipush 122, 0, 0, 0), (9, 3, .if_icmp .gt 7, 16, 0, 0), (12, 0, .iconst 1, 0, 0, 0), (13, 3, .goto 4, 17, 0, 0), (16, 0, .iconst 0, 0, 0, 0), 
  (17, 13, .ireturn, 0, 0, 0)]
/-- TemperDowns$Reader.isDigit(I)Z -/
noncomputable def zk86 : List (Nat × zJ) := [
  (0, 1, .iload_n 0, 0, 0, 0), (1, 0, .bipush 48, 0, 0, 0), (3, 3, .if_icmp .lt 13, 16, 0, 0), (6, 1, .iload_n 0, 0, 0, 0), 
  (7, 0, .bipush 57, 0, 0, 0), (9, 3, .if_icmp .gt 7, 16, 0, 0), (12, 0, .iconst 1, 0, 0, 0), (13, 3, .goto 4, 17, 0, 0), (16, 0, .iconst 0, 0, 0, 0), 
  (17, 13, .ireturn, 0, 0, 0)]
/-- TemperDowns$Reader.isWord(Ljava/lang/String;)Z -/
noncomputable def zk87 : List (Nat × zJ) := [
  (0, 1, .aload_n 0, 0, 0, 0), (1, 5, .getfield 72, 8, 8, 0), (4, 0, .iconst 1, 0, 0, 0), (5, 3, .if_icmp .ne 19, 24, 0, 0), 
  (8, 1, .aload_n 0, 0, 0, 0), (9, 5, .getfield 46, 8, 7, 0), (12, 1, .aload_n 0, 0, 0, 0), (13, 5, .getfield 78, 8, 6, 0), (16, 0, .isub, 0, 0, 0), 
  (17, 1, .aload_n 1, 0, 0, 0), (18, 12, .invokevirtual 104, 336, 1, 101), (21, 3, .if_icmp .eq 5, 26, 0, 0), (24, 0, .iconst 0, 0, 0, 0), 
  (25, 13, .ireturn, 0, 0, 0), (26, 0, .iconst 0, 0, 0, 0), (27, 22, .istore_n 2, 0, 0, 0), (28, 1, .iload_n 2, 0, 0, 0), (29, 1, .aload_n 1, 0, 0, 0), 
  (30, 12, .invokevirtual 104, 336, 1, 101), (33, 3, .if_icmp .ge 30, 63, 0, 0), (36, 1, .aload_n 0, 0, 0, 0), (37, 5, .getfield 32, 8, 4, 0), 
  (40, 1, .aload_n 0, 0, 0, 0), (41, 5, .getfield 78, 8, 6, 0), (44, 1, .iload_n 2, 0, 0, 0), (45, 0, .iadd, 0, 0, 0), (46, 7, .iaload, 0, 0, 0), 
  (47, 1, .aload_n 1, 0, 0, 0), (48, 1, .iload_n 2, 0, 0, 0), (49, 12, .invokevirtual 107, 338, 2, 101), (52, 3, .if_icmp .eq 5, 57, 0, 0), 
  (55, 0, .iconst 0, 0, 0, 0), (56, 13, .ireturn, 0, 0, 0), (57, 22, .iinc 2 1, 0, 0, 0), (60, 3, .goto (-32), 28, 0, 0), (63, 0, .iconst 1, 0, 0, 0), 
  (64, 13, .ireturn, 0, 0, 0)]
/-- TemperDowns$Reader.readDowns()Z -/
noncomputable def zk88 : List (Nat × zJ) := [
  (0, 1, .aload_n 0, 0, 0, 0), (1, 12, .invokevirtual 59, 84, 1, 9), (4, 1, .aload_n 0, 0, 0, 0), (5, 0, .iconst 1, 0, 0, 0), 
  (6, 0, .bipush 6, 0, 0, 0), (8, 12, .invokevirtual 124, 89, 3, 9), (11, 3, .ifCond .ne 5, 16, 0, 0), (14, 0, .iconst 0, 0, 0, 0), 
  (15, 13, .ireturn, 0, 0, 0), (16, 1, .aload_n 0, 0, 0, 0), (17, 5, .getfield 118, 8, 11, 0), (20, 22, .istore_n 1, 0, 0, 0), 
  (21, 1, .aload_n 0, 0, 0, 0), (22, 0, .iconst 1, 0, 0, 0), (23, 0, .bipush 6, 0, 0, 0), (25, 12, .invokevirtual 124, 89, 3, 9), 
  (28, 3, .ifCond .ne 5, 33, 0, 0), (31, 0, .iconst 0, 0, 0, 0), (32, 13, .ireturn, 0, 0, 0), (33, 1, .aload_n 0, 0, 0, 0), 
  (34, 5, .getfield 12, 8, 0, 0), (37, 1, .iload_n 1, 0, 0, 0), (38, 1, .aload_n 0, 0, 0, 0), (39, 5, .getfield 118, 8, 11, 0), 
  (42, 12, .invokevirtual 128, 59, 3, 6), (45, 1, .aload_n 0, 0, 0, 0), (46, 0, .bipush 59, 0, 0, 0), (48, 12, .invokevirtual 132, 91, 2, 9), 
  (51, 13, .ireturn, 0, 0, 0)]
/-- TemperDowns$Reader.readNumber(II)Z -/
noncomputable def zk89 : List (Nat × zJ) := [
  (0, 1, .aload_n 0, 0, 0, 0), (1, 5, .getfield 72, 8, 8, 0), (4, 0, .iconst 2, 0, 0, 0), (5, 3, .if_icmp .eq 9, 14, 0, 0), 
  (8, 1, .aload_n 0, 0, 0, 0), (9, 0, .iconst 1, 0, 0, 0), (10, 12, .invokevirtual 115, 90, 2, 9), (13, 13, .ireturn, 0, 0, 0), 
  (14, 1, .aload_n 0, 0, 0, 0), (15, 5, .getfield 92, 8, 10, 0), (18, 3, .ifCond .ne 19, 37, 0, 0), (21, 1, .aload_n 0, 0, 0, 0), 
  (22, 5, .getfield 88, 8, 9, 0), (25, 1, .iload_n 1, 0, 0, 0), (26, 3, .if_icmp .lt 11, 37, 0, 0), (29, 1, .aload_n 0, 0, 0, 0), 
  (30, 5, .getfield 88, 8, 9, 0), (33, 1, .iload_n 2, 0, 0, 0), (34, 3, .if_icmp .le 9, 43, 0, 0), (37, 1, .aload_n 0, 0, 0, 0), 
  (38, 0, .iconst 2, 0, 0, 0), (39, 12, .invokevirtual 115, 90, 2, 9), (42, 13, .ireturn, 0, 0, 0), (43, 1, .aload_n 0, 0, 0, 0), 
  (44, 1, .aload_n 0, 0, 0, 0), (45, 5, .getfield 88, 8, 9, 0), (48, 6, .putfield 118, 8, 11, 0), (51, 1, .aload_n 0, 0, 0, 0), 
  (52, 12, .invokevirtual 59, 84, 1, 9), (55, 0, .iconst 1, 0, 0, 0), (56, 13, .ireturn, 0, 0, 0)]
/-- TemperDowns$Reader.fail(I)Z -/
noncomputable def zk90 : List (Nat × zJ) := [
  (0, 1, .aload_n 0, 0, 0, 0), (1, 1, .iload_n 1, 0, 0, 0), (2, 6, .putfield 49, 8, 3, 0), (5, 1, .aload_n 0, 0, 0, 0), (6, 1, .aload_n 0, 0, 0, 0), 
  (7, 5, .getfield 78, 8, 6, 0), (10, 6, .putfield 52, 8, 2, 0), (13, 0, .iconst 0, 0, 0, 0), (14, 13, .ireturn, 0, 0, 0)]
/-- TemperDowns$Reader.readSign(C)Z -/
noncomputable def zk91 : List (Nat × zJ) := [
  (0, 1, .aload_n 0, 0, 0, 0), (1, 1, .iload_n 1, 0, 0, 0), (2, 12, .invokevirtual 111, 92, 2, 9), (5, 3, .ifCond .ne 9, 14, 0, 0), 
  (8, 1, .aload_n 0, 0, 0, 0), (9, 0, .iconst 1, 0, 0, 0), (10, 12, .invokevirtual 115, 90, 2, 9), (13, 13, .ireturn, 0, 0, 0), 
  (14, 1, .aload_n 0, 0, 0, 0), (15, 12, .invokevirtual 59, 84, 1, 9), (18, 0, .iconst 1, 0, 0, 0), (19, 13, .ireturn, 0, 0, 0)]
/-- TemperDowns$Reader.isSign(C)Z -/
noncomputable def zk92 : List (Nat × zJ) := [
  (0, 1, .aload_n 0, 0, 0, 0), (1, 5, .getfield 72, 8, 8, 0), (4, 0, .iconst 3, 0, 0, 0), (5, 3, .if_icmp .ne 20, 25, 0, 0), 
  (8, 1, .aload_n 0, 0, 0, 0), (9, 5, .getfield 32, 8, 4, 0), (12, 1, .aload_n 0, 0, 0, 0), (13, 5, .getfield 78, 8, 6, 0), (16, 7, .iaload, 0, 0, 0), 
  (17, 1, .iload_n 1, 0, 0, 0), (18, 3, .if_icmp .ne 7, 25, 0, 0), (21, 0, .iconst 1, 0, 0, 0), (22, 3, .goto 4, 26, 0, 0), 
  (25, 0, .iconst 0, 0, 0, 0), (26, 13, .ireturn, 0, 0, 0)]
/-- TemperDowns$Reader.readLine()Z -/
noncomputable def zk93 : List (Nat × zJ) := [
  (0, 1, .aload_n 0, 0, 0, 0), (1, 17, .ldc 135, 5, 0, 0), (3, 12, .invokevirtual 64, 87, 2, 9), (6, 3, .ifCond .eq 8, 14, 0, 0), 
  (9, 1, .aload_n 0, 0, 0, 0), (10, 12, .invokevirtual 137, 94, 1, 9), (13, 13, .ireturn, 0, 0, 0), (14, 1, .aload_n 0, 0, 0, 0), 
  (15, 17, .ldc 140, 7, 0, 0), (17, 12, .invokevirtual 64, 87, 2, 9), (20, 3, .ifCond .eq 8, 28, 0, 0), (23, 1, .aload_n 0, 0, 0, 0), 
  (24, 12, .invokevirtual 142, 96, 1, 9), (27, 13, .ireturn, 0, 0, 0), (28, 1, .aload_n 0, 0, 0, 0), (29, 17, .ldc 145, 11, 0, 0), 
  (31, 12, .invokevirtual 64, 87, 2, 9), (34, 3, .ifCond .eq 20, 54, 0, 0), (37, 1, .aload_n 0, 0, 0, 0), (38, 0, .iconst 1, 0, 0, 0), 
  (39, 6, .putfield 146, 8, 13, 2), (42, 1, .aload_n 0, 0, 0, 0), (43, 1, .aload_n 0, 0, 0, 0), (44, 5, .getfield 12, 8, 0, 0), 
  (47, 5, .getfield 25, 5, 7, 0), (50, 12, .invokevirtual 149, 97, 2, 9), (53, 13, .ireturn, 0, 0, 0), (54, 1, .aload_n 0, 0, 0, 0), 
  (55, 17, .ldc 153, 35, 0, 0), (57, 12, .invokevirtual 64, 87, 2, 9), (60, 3, .ifCond .eq 20, 80, 0, 0), (63, 1, .aload_n 0, 0, 0, 0), 
  (64, 0, .iconst 0, 0, 0, 0), (65, 6, .putfield 146, 8, 13, 2), (68, 1, .aload_n 0, 0, 0, 0), (69, 1, .aload_n 0, 0, 0, 0), 
  (70, 5, .getfield 12, 8, 0, 0), (73, 5, .getfield 155, 5, 8, 0), (76, 12, .invokevirtual 149, 97, 2, 9), (79, 13, .ireturn, 0, 0, 0), 
  (80, 1, .aload_n 0, 0, 0, 0), (81, 0, .iconst 1, 0, 0, 0), (82, 12, .invokevirtual 115, 90, 2, 9), (85, 13, .ireturn, 0, 0, 0)]
/-- TemperDowns$Reader.readPerson()Z -/
noncomputable def zk94 : List (Nat × zJ) := [
  (0, 1, .aload_n 0, 0, 0, 0), (1, 5, .getfield 12, 8, 0, 0), (4, 5, .getfield 157, 5, 3, 0), (7, 22, .istore_n 1, 0, 0, 0), 
  (8, 1, .iload_n 1, 0, 0, 0), (9, 0, .bipush 7, 0, 0, 0), (11, 3, .if_icmp .lt 9, 20, 0, 0), (14, 1, .aload_n 0, 0, 0, 0), 
  (15, 0, .iconst 2, 0, 0, 0), (16, 12, .invokevirtual 115, 90, 2, 9), (19, 13, .ireturn, 0, 0, 0), (20, 1, .aload_n 0, 0, 0, 0), 
  (21, 12, .invokevirtual 59, 84, 1, 9), (24, 1, .aload_n 0, 0, 0, 0), (25, 12, .invokevirtual 160, 95, 1, 9), (28, 3, .ifCond .ne 5, 33, 0, 0), 
  (31, 0, .iconst 0, 0, 0, 0), (32, 13, .ireturn, 0, 0, 0), (33, 1, .aload_n 0, 0, 0, 0), (34, 5, .getfield 12, 8, 0, 0), 
  (37, 5, .getfield 163, 5, 5, 0), (40, 1, .iload_n 1, 0, 0, 0), (41, 1, .aload_n 0, 0, 0, 0), (42, 5, .getfield 118, 8, 11, 0), 
  (45, 8, .iastore, 0, 0, 0), (46, 1, .aload_n 0, 0, 0, 0), (47, 0, .iconst 0, 0, 0, 0), (48, 0, .bipush 9, 0, 0, 0), 
  (50, 12, .invokevirtual 124, 89, 3, 9), (53, 3, .ifCond .ne 5, 58, 0, 0), (56, 0, .iconst 0, 0, 0, 0), (57, 13, .ireturn, 0, 0, 0), 
  (58, 1, .aload_n 0, 0, 0, 0), (59, 5, .getfield 21, 8, 1, 0), (62, 1, .iload_n 1, 0, 0, 0), (63, 1, .aload_n 0, 0, 0, 0), 
  (64, 5, .getfield 118, 8, 11, 0), (67, 12, .invokevirtual 166, 134, 3, 11), (70, 1, .aload_n 0, 0, 0, 0), (71, 0, .iconst 0, 0, 0, 0), 
  (72, 0, .bipush 99, 0, 0, 0), (74, 12, .invokevirtual 124, 89, 3, 9), (77, 3, .ifCond .ne 5, 82, 0, 0), (80, 0, .iconst 0, 0, 0, 0), 
  (81, 13, .ireturn, 0, 0, 0), (82, 1, .aload_n 0, 0, 0, 0), (83, 5, .getfield 21, 8, 1, 0), (86, 1, .iload_n 1, 0, 0, 0), 
  (87, 1, .aload_n 0, 0, 0, 0), (88, 5, .getfield 118, 8, 11, 0), (91, 12, .invokevirtual 169, 122, 3, 11), (94, 1, .aload_n 0, 0, 0, 0), 
  (95, 5, .getfield 12, 8, 0, 0), (98, 0, .dup, 0, 0, 0), (99, 5, .getfield 157, 5, 3, 0), (102, 0, .iconst 1, 0, 0, 0), (103, 0, .iadd, 0, 0, 0), 
  (104, 6, .putfield 157, 5, 3, 0), (107, 1, .aload_n 0, 0, 0, 0), (108, 0, .bipush 59, 0, 0, 0), (110, 12, .invokevirtual 132, 91, 2, 9), 
  (113, 13, .ireturn, 0, 0, 0)]
/-- TemperDowns$Reader.readCell()Z -/
noncomputable def zk95 : List (Nat × zJ) := [
  (0, 1, .aload_n 0, 0, 0, 0), (1, 5, .getfield 72, 8, 8, 0), (4, 0, .iconst 2, 0, 0, 0), (5, 3, .if_icmp .ne 30, 35, 0, 0), 
  (8, 1, .aload_n 0, 0, 0, 0), (9, 5, .getfield 92, 8, 10, 0), (12, 3, .ifCond .ne 23, 35, 0, 0), (15, 1, .aload_n 0, 0, 0, 0), 
  (16, 5, .getfield 88, 8, 9, 0), (19, 1, .aload_n 0, 0, 0, 0), (20, 5, .getfield 12, 8, 0, 0), (23, 5, .getfield 121, 5, 2, 0), 
  (26, 3, .if_icmp .lt 9, 35, 0, 0), (29, 1, .aload_n 0, 0, 0, 0), (30, 0, .iconst 3, 0, 0, 0), (31, 12, .invokevirtual 115, 90, 2, 9), 
  (34, 13, .ireturn, 0, 0, 0), (35, 1, .aload_n 0, 0, 0, 0), (36, 0, .iconst 0, 0, 0, 0), (37, 1, .aload_n 0, 0, 0, 0), (38, 5, .getfield 12, 8, 0, 0), 
  (41, 5, .getfield 121, 5, 2, 0), (44, 0, .iconst 1, 0, 0, 0), (45, 0, .isub, 0, 0, 0), (46, 12, .invokevirtual 124, 89, 3, 9), 
  (49, 13, .ireturn, 0, 0, 0)]
/-- TemperDowns$Reader.readBall()Z -/
noncomputable def zk96 : List (Nat × zJ) := [
  (0, 1, .aload_n 0, 0, 0, 0), (1, 5, .getfield 12, 8, 0, 0), (4, 5, .getfield 172, 5, 4, 0), (7, 22, .istore_n 1, 0, 0, 0), 
  (8, 1, .iload_n 1, 0, 0, 0), (9, 0, .bipush 10, 0, 0, 0), (11, 3, .if_icmp .lt 9, 20, 0, 0), (14, 1, .aload_n 0, 0, 0, 0), 
  (15, 0, .iconst 2, 0, 0, 0), (16, 12, .invokevirtual 115, 90, 2, 9), (19, 13, .ireturn, 0, 0, 0), (20, 1, .aload_n 0, 0, 0, 0), 
  (21, 12, .invokevirtual 59, 84, 1, 9), (24, 1, .aload_n 0, 0, 0, 0), (25, 12, .invokevirtual 160, 95, 1, 9), (28, 3, .ifCond .ne 5, 33, 0, 0), 
  (31, 0, .iconst 0, 0, 0, 0), (32, 13, .ireturn, 0, 0, 0), (33, 1, .aload_n 0, 0, 0, 0), (34, 5, .getfield 21, 8, 1, 0), (37, 1, .iload_n 1, 0, 0, 0), 
  (38, 1, .aload_n 0, 0, 0, 0), (39, 5, .getfield 118, 8, 11, 0), (42, 12, .invokevirtual 175, 135, 3, 11), (45, 1, .aload_n 0, 0, 0, 0), 
  (46, 0, .iconst 1, 0, 0, 0), (47, 0, .bipush 99, 0, 0, 0), (49, 12, .invokevirtual 124, 89, 3, 9), (52, 3, .ifCond .ne 5, 57, 0, 0), 
  (55, 0, .iconst 0, 0, 0, 0), (56, 13, .ireturn, 0, 0, 0), (57, 1, .aload_n 0, 0, 0, 0), (58, 5, .getfield 12, 8, 0, 0), 
  (61, 5, .getfield 178, 5, 6, 0), (64, 1, .iload_n 1, 0, 0, 0), (65, 1, .aload_n 0, 0, 0, 0), (66, 5, .getfield 118, 8, 11, 0), 
  (69, 8, .iastore, 0, 0, 0), (70, 1, .aload_n 0, 0, 0, 0), (71, 17, .ldc 181, 9, 0, 0), (73, 12, .invokevirtual 64, 87, 2, 9), 
  (76, 3, .ifCond .eq 39, 115, 0, 0), (79, 1, .aload_n 0, 0, 0, 0), (80, 12, .invokevirtual 59, 84, 1, 9), (83, 1, .aload_n 0, 0, 0, 0), 
  (84, 0, .iconst 1, 0, 0, 0), (85, 1, .aload_n 0, 0, 0, 0), (86, 5, .getfield 12, 8, 0, 0), (89, 5, .getfield 178, 5, 6, 0), 
  (92, 1, .iload_n 1, 0, 0, 0), (93, 7, .iaload, 0, 0, 0), (94, 12, .invokevirtual 124, 89, 3, 9), (97, 3, .ifCond .ne 5, 102, 0, 0), 
  (100, 0, .iconst 0, 0, 0, 0), (101, 13, .ireturn, 0, 0, 0), (102, 1, .aload_n 0, 0, 0, 0), (103, 5, .getfield 21, 8, 1, 0), 
  (106, 1, .iload_n 1, 0, 0, 0), (107, 1, .aload_n 0, 0, 0, 0), (108, 5, .getfield 118, 8, 11, 0), (111, 0, .iconst (-1), 0, 0, 0), 
  (112, 12, .invokevirtual 183, 125, 4, 11), (115, 1, .aload_n 0, 0, 0, 0), (116, 5, .getfield 12, 8, 0, 0), (119, 0, .dup, 0, 0, 0), 
  (120, 5, .getfield 172, 5, 4, 0), (123, 0, .iconst 1, 0, 0, 0), (124, 0, .iadd, 0, 0, 0), (125, 6, .putfield 172, 5, 4, 0), 
  (128, 1, .aload_n 0, 0, 0, 0), (129, 0, .bipush 59, 0, 0, 0), (131, 12, .invokevirtual 132, 91, 2, 9), (134, 13, .ireturn, 0, 0, 0)]
/-- TemperDowns$Reader.readRule(LTemperDowns$Rule;)Z -/
noncomputable def zk97 : List (Nat × zJ) := [
  (0, 1, .aload_n 1, 0, 0, 0), (1, 12, .invokevirtual 187, 109, 1, 10), (4, 3, .ifCond .eq 9, 13, 0, 0), (7, 1, .aload_n 0, 0, 0, 0), 
  (8, 0, .iconst 5, 0, 0, 0), (9, 12, .invokevirtual 115, 90, 2, 9), (12, 13, .ireturn, 0, 0, 0), (13, 1, .aload_n 0, 0, 0, 0), 
  (14, 1, .aload_n 1, 0, 0, 0), (15, 6, .putfield 29, 8, 12, 3), (18, 1, .aload_n 0, 0, 0, 0), (19, 12, .invokevirtual 59, 84, 1, 9), 
  (22, 1, .aload_n 0, 0, 0, 0), (23, 0, .iconst 0, 0, 0, 0), (24, 12, .invokevirtual 192, 98, 2, 9), (27, 3, .ifCond .eq 16, 43, 0, 0), 
  (30, 1, .aload_n 0, 0, 0, 0), (31, 0, .bipush 59, 0, 0, 0), (33, 12, .invokevirtual 132, 91, 2, 9), (36, 3, .ifCond .eq 7, 43, 0, 0), 
  (39, 0, .iconst 1, 0, 0, 0), (40, 3, .goto 4, 44, 0, 0), (43, 0, .iconst 0, 0, 0, 0), (44, 13, .ireturn, 0, 0, 0)]
/-- TemperDowns$Reader.readExpr(I)Z -/
noncomputable def zk98 : List (Nat × zJ) := [
  (0, 1, .iload_n 1, 0, 0, 0), (1, 0, .bipush 6, 0, 0, 0), (3, 3, .if_icmp .lt 34, 37, 0, 0), (6, 1, .aload_n 0, 0, 0, 0), 
  (7, 5, .getfield 72, 8, 8, 0), (10, 0, .iconst 2, 0, 0, 0), (11, 3, .if_icmp .eq 20, 31, 0, 0), (14, 1, .aload_n 0, 0, 0, 0), 
  (15, 5, .getfield 72, 8, 8, 0), (18, 0, .iconst 1, 0, 0, 0), (19, 3, .if_icmp .eq 12, 31, 0, 0), (22, 1, .aload_n 0, 0, 0, 0), 
  (23, 0, .bipush 40, 0, 0, 0), (25, 12, .invokevirtual 111, 92, 2, 9), (28, 3, .ifCond .eq 9, 37, 0, 0), (31, 1, .aload_n 0, 0, 0, 0), 
  (32, 0, .iconst 2, 0, 0, 0), (33, 12, .invokevirtual 115, 90, 2, 9), (36, 13, .ireturn, 0, 0, 0), (37, 1, .aload_n 0, 0, 0, 0), 
  (38, 1, .iload_n 1, 0, 0, 0), (39, 12, .invokevirtual 195, 99, 2, 9), (42, 3, .ifCond .ne 5, 47, 0, 0), (45, 0, .iconst 0, 0, 0, 0), 
  (46, 13, .ireturn, 0, 0, 0), (47, 0, .iconst 0, 0, 0, 0), (48, 22, .istore_n 2, 0, 0, 0), (49, 1, .iload_n 2, 0, 0, 0), 
  (50, 0, .sipush 700, 0, 0, 0), (53, 3, .if_icmp .ge 40, 93, 0, 0), (56, 1, .aload_n 0, 0, 0, 0), (57, 17, .ldc 198, 33, 0, 0), 
  (59, 12, .invokevirtual 64, 87, 2, 9), (62, 3, .ifCond .eq 31, 93, 0, 0), (65, 1, .aload_n 0, 0, 0, 0), (66, 12, .invokevirtual 59, 84, 1, 9), 
  (69, 1, .aload_n 0, 0, 0, 0), (70, 1, .iload_n 1, 0, 0, 0), (71, 12, .invokevirtual 195, 99, 2, 9), (74, 3, .ifCond .ne 5, 79, 0, 0), 
  (77, 0, .iconst 0, 0, 0, 0), (78, 13, .ireturn, 0, 0, 0), (79, 1, .aload_n 0, 0, 0, 0), (80, 5, .getfield 29, 8, 12, 0), 
  (83, 0, .iconst (-1), 0, 0, 0), (84, 12, .invokevirtual 200, 113, 2, 10), (87, 22, .iinc 2 1, 0, 0, 0), (90, 3, .goto (-41), 49, 0, 0), 
  (93, 0, .iconst 1, 0, 0, 0), (94, 13, .ireturn, 0, 0, 0)]
/-- TemperDowns$Reader.readAnd(I)Z -/
noncomputable def zk99 : List (Nat × zJ) := [
  (0, 1, .aload_n 0, 0, 0, 0), (1, 1, .iload_n 1, 0, 0, 0), (2, 12, .invokevirtual 204, 100, 2, 9), (5, 3, .ifCond .ne 5, 10, 0, 0), 
  (8, 0, .iconst 0, 0, 0, 0), (9, 13, .ireturn, 0, 0, 0), (10, 0, .iconst 0, 0, 0, 0), (11, 22, .istore_n 2, 0, 0, 0), (12, 1, .iload_n 2, 0, 0, 0), 
  (13, 0, .sipush 700, 0, 0, 0), (16, 3, .if_icmp .ge 41, 57, 0, 0), (19, 1, .aload_n 0, 0, 0, 0), (20, 17, .ldc 207, 31, 0, 0), 
  (22, 12, .invokevirtual 64, 87, 2, 9), (25, 3, .ifCond .eq 32, 57, 0, 0), (28, 1, .aload_n 0, 0, 0, 0), (29, 12, .invokevirtual 59, 84, 1, 9), 
  (32, 1, .aload_n 0, 0, 0, 0), (33, 1, .iload_n 1, 0, 0, 0), (34, 12, .invokevirtual 204, 100, 2, 9), (37, 3, .ifCond .ne 5, 42, 0, 0), 
  (40, 0, .iconst 0, 0, 0, 0), (41, 13, .ireturn, 0, 0, 0), (42, 1, .aload_n 0, 0, 0, 0), (43, 5, .getfield 29, 8, 12, 0), 
  (46, 0, .bipush (-2), 0, 0, 0), (48, 12, .invokevirtual 200, 113, 2, 10), (51, 22, .iinc 2 1, 0, 0, 0), (54, 3, .goto (-42), 12, 0, 0), 
  (57, 0, .iconst 1, 0, 0, 0), (58, 13, .ireturn, 0, 0, 0)]
/-- TemperDowns$Reader.readNot(I)Z -/
noncomputable def zk100 : List (Nat × zJ) := [
  (0, 0, .iconst 0, 0, 0, 0), (1, 22, .istore_n 2, 0, 0, 0), (2, 1, .iload_n 2, 0, 0, 0), (3, 0, .bipush 6, 0, 0, 0), 
  (5, 3, .if_icmp .ge 22, 27, 0, 0), (8, 1, .aload_n 0, 0, 0, 0), (9, 17, .ldc 209, 13, 0, 0), (11, 12, .invokevirtual 64, 87, 2, 9), 
  (14, 3, .ifCond .eq 13, 27, 0, 0), (17, 22, .iinc 2 1, 0, 0, 0), (20, 1, .aload_n 0, 0, 0, 0), (21, 12, .invokevirtual 59, 84, 1, 9), 
  (24, 3, .goto (-22), 2, 0, 0), (27, 1, .iload_n 2, 0, 0, 0), (28, 0, .bipush 6, 0, 0, 0), (30, 3, .if_icmp .ne 18, 48, 0, 0), 
  (33, 1, .aload_n 0, 0, 0, 0), (34, 17, .ldc 209, 13, 0, 0), (36, 12, .invokevirtual 64, 87, 2, 9), (39, 3, .ifCond .eq 9, 48, 0, 0), 
  (42, 1, .aload_n 0, 0, 0, 0), (43, 0, .iconst 2, 0, 0, 0), (44, 12, .invokevirtual 115, 90, 2, 9), (47, 13, .ireturn, 0, 0, 0), 
  (48, 1, .aload_n 0, 0, 0, 0), (49, 1, .iload_n 1, 0, 0, 0), (50, 12, .invokevirtual 211, 101, 2, 9), (53, 3, .ifCond .ne 5, 58, 0, 0), 
  (56, 0, .iconst 0, 0, 0, 0), (57, 13, .ireturn, 0, 0, 0), (58, 0, .iconst 0, 0, 0, 0), (59, 22, .istore_n 3, 0, 0, 0), (60, 1, .iload_n 3, 0, 0, 0), 
  (61, 1, .iload_n 2, 0, 0, 0), (62, 3, .if_icmp .ge 18, 80, 0, 0), (65, 1, .aload_n 0, 0, 0, 0), (66, 5, .getfield 29, 8, 12, 0), 
  (69, 0, .bipush (-3), 0, 0, 0), (71, 12, .invokevirtual 200, 113, 2, 10), (74, 22, .iinc 3 1, 0, 0, 0), (77, 3, .goto (-17), 60, 0, 0), 
  (80, 0, .iconst 1, 0, 0, 0), (81, 13, .ireturn, 0, 0, 0)]
/-- TemperDowns$Reader.readTest(I)Z -/
noncomputable def zk101 : List (Nat × zJ) := [
  (0, 1, .aload_n 0, 0, 0, 0), (1, 1, .iload_n 1, 0, 0, 0), (2, 12, .invokevirtual 214, 102, 2, 9), (5, 3, .ifCond .ne 5, 10, 0, 0), 
  (8, 0, .iconst 0, 0, 0, 0), (9, 13, .ireturn, 0, 0, 0), (10, 1, .aload_n 0, 0, 0, 0), (11, 0, .bipush 60, 0, 0, 0), 
  (13, 12, .invokevirtual 111, 92, 2, 9), (16, 3, .ifCond .ne 14, 30, 0, 0), (19, 1, .aload_n 0, 0, 0, 0), (20, 0, .bipush 61, 0, 0, 0), 
  (22, 12, .invokevirtual 111, 92, 2, 9), (25, 3, .ifCond .ne 5, 30, 0, 0), (28, 0, .iconst 1, 0, 0, 0), (29, 13, .ireturn, 0, 0, 0), 
  (30, 1, .aload_n 0, 0, 0, 0), (31, 0, .bipush 60, 0, 0, 0), (33, 12, .invokevirtual 111, 92, 2, 9), (36, 3, .ifCond .eq 8, 44, 0, 0), 
  (39, 0, .bipush (-4), 0, 0, 0), (41, 3, .goto 5, 46, 0, 0), (44, 0, .bipush (-5), 0, 0, 0), (46, 22, .istore_n 2, 0, 0, 0), 
  (47, 1, .aload_n 0, 0, 0, 0), (48, 12, .invokevirtual 59, 84, 1, 9), (51, 1, .aload_n 0, 0, 0, 0), (52, 1, .iload_n 1, 0, 0, 0), 
  (53, 12, .invokevirtual 214, 102, 2, 9), (56, 3, .ifCond .ne 5, 61, 0, 0), (59, 0, .iconst 0, 0, 0, 0), (60, 13, .ireturn, 0, 0, 0), 
  (61, 1, .aload_n 0, 0, 0, 0), (62, 5, .getfield 29, 8, 12, 0), (65, 1, .iload_n 2, 0, 0, 0), (66, 12, .invokevirtual 200, 113, 2, 10), 
  (69, 0, .iconst 1, 0, 0, 0), (70, 13, .ireturn, 0, 0, 0)]
/-- TemperDowns$Reader.readSum(I)Z -/
noncomputable def zk102 : List (Nat × zJ) := [
  (0, 1, .aload_n 0, 0, 0, 0), (1, 1, .iload_n 1, 0, 0, 0), (2, 12, .invokevirtual 217, 103, 2, 9), (5, 3, .ifCond .ne 5, 10, 0, 0), 
  (8, 0, .iconst 0, 0, 0, 0), (9, 13, .ireturn, 0, 0, 0), (10, 0, .iconst 0, 0, 0, 0), (11, 22, .istore_n 2, 0, 0, 0), (12, 1, .iload_n 2, 0, 0, 0), 
  (13, 0, .sipush 700, 0, 0, 0), (16, 3, .if_icmp .ge 66, 82, 0, 0), (19, 1, .aload_n 0, 0, 0, 0), (20, 0, .bipush 43, 0, 0, 0), 
  (22, 12, .invokevirtual 111, 92, 2, 9), (25, 3, .ifCond .ne 12, 37, 0, 0), (28, 1, .aload_n 0, 0, 0, 0), (29, 0, .bipush 45, 0, 0, 0), 
  (31, 12, .invokevirtual 111, 92, 2, 9), (34, 3, .ifCond .eq 48, 82, 0, 0), (37, 1, .aload_n 0, 0, 0, 0), (38, 0, .bipush 43, 0, 0, 0), 
  (40, 12, .invokevirtual 111, 92, 2, 9), (43, 3, .ifCond .eq 8, 51, 0, 0), (46, 0, .bipush (-6), 0, 0, 0), (48, 3, .goto 5, 53, 0, 0), 
  (51, 0, .bipush (-7), 0, 0, 0), (53, 22, .istore_n 3, 0, 0, 0), (54, 1, .aload_n 0, 0, 0, 0), (55, 12, .invokevirtual 59, 84, 1, 9), 
  (58, 1, .aload_n 0, 0, 0, 0), (59, 1, .iload_n 1, 0, 0, 0), (60, 12, .invokevirtual 217, 103, 2, 9), (63, 3, .ifCond .ne 5, 68, 0, 0), 
  (66, 0, .iconst 0, 0, 0, 0), (67, 13, .ireturn, 0, 0, 0), (68, 1, .aload_n 0, 0, 0, 0), (69, 5, .getfield 29, 8, 12, 0), 
  (72, 1, .iload_n 3, 0, 0, 0), (73, 12, .invokevirtual 200, 113, 2, 10), (76, 22, .iinc 2 1, 0, 0, 0), (79, 3, .goto (-67), 12, 0, 0), 
  (82, 0, .iconst 1, 0, 0, 0), (83, 13, .ireturn, 0, 0, 0)]
/-- TemperDowns$Reader.readProduct(I)Z -/
noncomputable def zk103 : List (Nat × zJ) := [
  (0, 1, .aload_n 0, 0, 0, 0), (1, 1, .iload_n 1, 0, 0, 0), (2, 12, .invokevirtual 220, 104, 2, 9), (5, 3, .ifCond .ne 5, 10, 0, 0), 
  (8, 0, .iconst 0, 0, 0, 0), (9, 13, .ireturn, 0, 0, 0), (10, 0, .iconst 0, 0, 0, 0), (11, 22, .istore_n 2, 0, 0, 0), (12, 1, .iload_n 2, 0, 0, 0), 
  (13, 0, .sipush 700, 0, 0, 0), (16, 3, .if_icmp .ge 66, 82, 0, 0), (19, 1, .aload_n 0, 0, 0, 0), (20, 0, .bipush 42, 0, 0, 0), 
  (22, 12, .invokevirtual 111, 92, 2, 9), (25, 3, .ifCond .ne 12, 37, 0, 0), (28, 1, .aload_n 0, 0, 0, 0), (29, 0, .bipush 47, 0, 0, 0), 
  (31, 12, .invokevirtual 111, 92, 2, 9), (34, 3, .ifCond .eq 48, 82, 0, 0), (37, 1, .aload_n 0, 0, 0, 0), (38, 0, .bipush 42, 0, 0, 0), 
  (40, 12, .invokevirtual 111, 92, 2, 9), (43, 3, .ifCond .eq 8, 51, 0, 0), (46, 0, .bipush (-8), 0, 0, 0), (48, 3, .goto 5, 53, 0, 0), 
  (51, 0, .bipush (-9), 0, 0, 0), (53, 22, .istore_n 3, 0, 0, 0), (54, 1, .aload_n 0, 0, 0, 0), (55, 12, .invokevirtual 59, 84, 1, 9), 
  (58, 1, .aload_n 0, 0, 0, 0), (59, 1, .iload_n 1, 0, 0, 0), (60, 12, .invokevirtual 220, 104, 2, 9), (63, 3, .ifCond .ne 5, 68, 0, 0), 
  (66, 0, .iconst 0, 0, 0, 0), (67, 13, .ireturn, 0, 0, 0), (68, 1, .aload_n 0, 0, 0, 0), (69, 5, .getfield 29, 8, 12, 0), 
  (72, 1, .iload_n 3, 0, 0, 0), (73, 12, .invokevirtual 200, 113, 2, 10), (76, 22, .iinc 2 1, 0, 0, 0), (79, 3, .goto (-67), 12, 0, 0), 
  (82, 0, .iconst 1, 0, 0, 0), (83, 13, .ireturn, 0, 0, 0)]
/-- TemperDowns$Reader.readPart(I)Z -/
noncomputable def zk104 : List (Nat × zJ) := [
  (0, 1, .aload_n 0, 0, 0, 0), (1, 5, .getfield 72, 8, 8, 0), (4, 0, .iconst 2, 0, 0, 0), (5, 3, .if_icmp .ne 29, 34, 0, 0), 
  (8, 1, .aload_n 0, 0, 0, 0), (9, 0, .iconst 0, 0, 0, 0), (10, 0, .sipush 9999, 0, 0, 0), (13, 12, .invokevirtual 124, 89, 3, 9), 
  (16, 3, .ifCond .ne 5, 21, 0, 0), (19, 0, .iconst 0, 0, 0, 0), (20, 13, .ireturn, 0, 0, 0), (21, 1, .aload_n 0, 0, 0, 0), 
  (22, 5, .getfield 29, 8, 12, 0), (25, 1, .aload_n 0, 0, 0, 0), (26, 5, .getfield 118, 8, 11, 0), (29, 12, .invokevirtual 200, 113, 2, 10), 
  (32, 0, .iconst 1, 0, 0, 0), (33, 13, .ireturn, 0, 0, 0), (34, 1, .aload_n 0, 0, 0, 0), (35, 5, .getfield 72, 8, 8, 0), (38, 0, .iconst 1, 0, 0, 0), 
  (39, 3, .if_icmp .ne 50, 89, 0, 0), (42, 1, .aload_n 0, 0, 0, 0), (43, 5, .getfield 146, 8, 13, 0), (46, 3, .ifCond .eq 10, 56, 0, 0), 
  (49, 1, .aload_n 0, 0, 0, 0), (50, 12, .invokevirtual 223, 105, 1, 9), (53, 3, .goto 7, 60, 0, 0), (56, 1, .aload_n 0, 0, 0, 0), 
  (57, 12, .invokevirtual 226, 106, 1, 9), (60, 22, .istore_n 2, 0, 0, 0), (61, 1, .iload_n 2, 0, 0, 0), (62, 0, .iconst (-1), 0, 0, 0), 
  (63, 3, .if_icmp .ne 9, 72, 0, 0), (66, 1, .aload_n 0, 0, 0, 0), (67, 0, .iconst 3, 0, 0, 0), (68, 12, .invokevirtual 115, 90, 2, 9), 
  (71, 13, .ireturn, 0, 0, 0), (72, 1, .aload_n 0, 0, 0, 0), (73, 5, .getfield 29, 8, 12, 0), (76, 0, .bipush (-20), 0, 0, 0), 
  (78, 1, .iload_n 2, 0, 0, 0), (79, 0, .isub, 0, 0, 0), (80, 12, .invokevirtual 200, 113, 2, 10), (83, 1, .aload_n 0, 0, 0, 0), 
  (84, 12, .invokevirtual 59, 84, 1, 9), (87, 0, .iconst 1, 0, 0, 0), (88, 13, .ireturn, 0, 0, 0), (89, 1, .iload_n 1, 0, 0, 0), 
  (90, 0, .bipush 6, 0, 0, 0), (92, 3, .if_icmp .ge 12, 104, 0, 0), (95, 1, .aload_n 0, 0, 0, 0), (96, 0, .bipush 40, 0, 0, 0), 
  (98, 12, .invokevirtual 111, 92, 2, 9), (101, 3, .ifCond .ne 9, 110, 0, 0), (104, 1, .aload_n 0, 0, 0, 0), (105, 0, .iconst 1, 0, 0, 0), 
  (106, 12, .invokevirtual 115, 90, 2, 9), (109, 13, .ireturn, 0, 0, 0), (110, 1, .aload_n 0, 0, 0, 0), (111, 12, .invokevirtual 59, 84, 1, 9), 
  (114, 1, .aload_n 0, 0, 0, 0), (115, 1, .iload_n 1, 0, 0, 0), (116, 0, .iconst 1, 0, 0, 0), (117, 0, .iadd, 0, 0, 0), 
  (118, 12, .invokevirtual 192, 98, 2, 9), (121, 3, .ifCond .eq 16, 137, 0, 0), (124, 1, .aload_n 0, 0, 0, 0), (125, 0, .bipush 41, 0, 0, 0), 
  (127, 12, .invokevirtual 132, 91, 2, 9), (130, 3, .ifCond .eq 7, 137, 0, 0), (133, 0, .iconst 1, 0, 0, 0), (134, 3, .goto 4, 138, 0, 0), 
  (137, 0, .iconst 0, 0, 0, 0), (138, 13, .ireturn, 0, 0, 0)]
/-- TemperDowns$Reader.valueOfPerson()I -/
noncomputable def zk105 : List (Nat × zJ) := [
  (0, 1, .aload_n 0, 0, 0, 0), (1, 17, .ldc 229, 15, 0, 0), (3, 12, .invokevirtual 64, 87, 2, 9), (6, 3, .ifCond .eq 5, 11, 0, 0), 
  (9, 0, .iconst 0, 0, 0, 0), (10, 13, .ireturn, 0, 0, 0), (11, 1, .aload_n 0, 0, 0, 0), (12, 17, .ldc 231, 17, 0, 0), 
  (14, 12, .invokevirtual 64, 87, 2, 9), (17, 3, .ifCond .eq 5, 22, 0, 0), (20, 0, .iconst 1, 0, 0, 0), (21, 13, .ireturn, 0, 0, 0), 
  (22, 1, .aload_n 0, 0, 0, 0), (23, 17, .ldc 233, 19, 0, 0), (25, 12, .invokevirtual 64, 87, 2, 9), (28, 3, .ifCond .eq 5, 33, 0, 0), 
  (31, 0, .iconst 2, 0, 0, 0), (32, 13, .ireturn, 0, 0, 0), (33, 1, .aload_n 0, 0, 0, 0), (34, 17, .ldc 235, 21, 0, 0), 
  (36, 12, .invokevirtual 64, 87, 2, 9), (39, 3, .ifCond .eq 5, 44, 0, 0), (42, 0, .iconst 3, 0, 0, 0), (43, 13, .ireturn, 0, 0, 0), 
  (44, 1, .aload_n 0, 0, 0, 0), (45, 17, .ldc 237, 23, 0, 0), (47, 12, .invokevirtual 64, 87, 2, 9), (50, 3, .ifCond .eq 7, 57, 0, 0), 
  (53, 0, .iconst 4, 0, 0, 0), (54, 3, .goto 4, 58, 0, 0), (57, 0, .iconst (-1), 0, 0, 0), (58, 13, .ireturn, 0, 0, 0)]
/-- TemperDowns$Reader.valueOfBall()I -/
noncomputable def zk106 : List (Nat × zJ) := [
  (0, 1, .aload_n 0, 0, 0, 0), (1, 17, .ldc 181, 9, 0, 0), (3, 12, .invokevirtual 64, 87, 2, 9), (6, 3, .ifCond .eq 5, 11, 0, 0), 
  (9, 0, .iconst 0, 0, 0, 0), (10, 13, .ireturn, 0, 0, 0), (11, 1, .aload_n 0, 0, 0, 0), (12, 17, .ldc 239, 25, 0, 0), 
  (14, 12, .invokevirtual 64, 87, 2, 9), (17, 3, .ifCond .eq 5, 22, 0, 0), (20, 0, .iconst 1, 0, 0, 0), (21, 13, .ireturn, 0, 0, 0), 
  (22, 1, .aload_n 0, 0, 0, 0), (23, 17, .ldc 240, 27, 0, 0), (25, 12, .invokevirtual 64, 87, 2, 9), (28, 3, .ifCond .eq 5, 33, 0, 0), 
  (31, 0, .iconst 2, 0, 0, 0), (32, 13, .ireturn, 0, 0, 0), (33, 1, .aload_n 0, 0, 0, 0), (34, 17, .ldc 242, 29, 0, 0), 
  (36, 12, .invokevirtual 64, 87, 2, 9), (39, 3, .ifCond .eq 5, 44, 0, 0), (42, 0, .iconst 3, 0, 0, 0), (43, 13, .ireturn, 0, 0, 0), 
  (44, 1, .aload_n 0, 0, 0, 0), (45, 17, .ldc 237, 23, 0, 0), (47, 12, .invokevirtual 64, 87, 2, 9), (50, 3, .ifCond .eq 7, 57, 0, 0), 
  (53, 0, .iconst 4, 0, 0, 0), (54, 3, .goto 4, 58, 0, 0), (57, 0, .iconst (-1), 0, 0, 0), (58, 13, .ireturn, 0, 0, 0)]
/-- TemperDowns$Rule.<init>()V -/
noncomputable def zk107 : List (Nat × zJ) := [
  (0, 1, .aload_n 0, 0, 0, 0), (1, 19, .invokespecial 3, 0, 0, 0), (4, 1, .aload_n 0, 0, 0, 0), (5, 0, .sipush 700, 0, 0, 0), 
  (8, 11, .newarray .int, 0, 0, 0), (10, 6, .putfield 9, 9, 0, 3), (13, 13, .return_, 0, 0, 0)]
/-- TemperDowns$Rule.clear()V -/
noncomputable def zk108 : List (Nat × zJ) := [
  (0, 1, .aload_n 0, 0, 0, 0), (1, 0, .iconst 0, 0, 0, 0), (2, 6, .putfield 15, 9, 1, 0), (5, 13, .return_, 0, 0, 0)]
/-- TemperDowns$Rule.isTold()Z -/
noncomputable def zk109 : List (Nat × zJ) := [
  (0, 1, .aload_n 0, 0, 0, 0), (1, 5, .getfield 15, 9, 1, 0), (4, 3, .ifCond .le 7, 11, 0, 0), (7, 0, .iconst 1, 0, 0, 0), (8, 3, .goto 4, 12, 0, 0), 
  (11, 0, .iconst 0, 0, 0, 0), (12, 13, .ireturn, 0, 0, 0)]
/-- TemperDowns$Rule.worth([I[I)I -/
noncomputable def zk110 : List (Nat × zJ) := [
  (0, 0, .iconst 0, 0, 0, 0), (1, 22, .istore_n 3, 0, 0, 0), (2, 0, .iconst 0, 0, 0, 0), (3, 22, .istore 4, 0, 0, 0), (5, 1, .iload 4, 0, 0, 0), 
  (7, 1, .aload_n 0, 0, 0, 0), (8, 5, .getfield 15, 9, 1, 0), (11, 3, .if_icmp .ge 122, 133, 0, 0), (14, 1, .aload_n 0, 0, 0, 0), 
  (15, 5, .getfield 9, 9, 0, 0), (18, 1, .iload 4, 0, 0, 0), (20, 7, .iaload, 0, 0, 0), (21, 22, .istore 5, 0, 0, 0), (23, 1, .iload 5, 0, 0, 0), 
  (25, 0, .bipush (-3), 0, 0, 0), (27, 3, .if_icmp .ne 28, 55, 0, 0), (30, 1, .iload_n 3, 0, 0, 0), (31, 3, .ifCond .le 96, 127, 0, 0), 
  (34, 1, .aload_n 2, 0, 0, 0), (35, 1, .iload_n 3, 0, 0, 0), (36, 0, .iconst 1, 0, 0, 0), (37, 0, .isub, 0, 0, 0), (38, 1, .aload_n 2, 0, 0, 0), 
  (39, 1, .iload_n 3, 0, 0, 0), (40, 0, .iconst 1, 0, 0, 0), (41, 0, .isub, 0, 0, 0), (42, 7, .iaload, 0, 0, 0), (43, 3, .ifCond .ne 7, 50, 0, 0), 
  (46, 0, .iconst 1, 0, 0, 0), (47, 3, .goto 4, 51, 0, 0), (50, 0, .iconst 0, 0, 0, 0), (51, 8, .iastore, 0, 0, 0), (52, 3, .goto 75, 127, 0, 0), 
  (55, 1, .iload 5, 0, 0, 0), (57, 3, .ifCond .ge 10, 67, 0, 0), (60, 1, .iload 5, 0, 0, 0), (62, 0, .bipush (-20), 0, 0, 0), 
  (64, 3, .if_icmp .gt 37, 101, 0, 0), (67, 1, .iload_n 3, 0, 0, 0), (68, 1, .aload_n 2, 0, 0, 0), (69, 9, .arraylength, 0, 0, 0), 
  (70, 3, .if_icmp .ge 57, 127, 0, 0), (73, 1, .aload_n 2, 0, 0, 0), (74, 1, .iload_n 3, 0, 0, 0), (75, 1, .iload 5, 0, 0, 0), 
  (77, 3, .ifCond .lt 8, 85, 0, 0), (80, 1, .iload 5, 0, 0, 0), (82, 3, .goto 12, 94, 0, 0), (85, 1, .aload_n 1, 0, 0, 0), 
  (86, 0, .bipush (-20), 0, 0, 0), (88, 1, .iload 5, 0, 0, 0), (90, 0, .isub, 0, 0, 0), (91, 12, .invokestatic 25, 111, 2, 0), 
  (94, 8, .iastore, 0, 0, 0), (95, 22, .iinc 3 1, 0, 0, 0), (98, 3, .goto 29, 127, 0, 0), (101, 1, .iload_n 3, 0, 0, 0), (102, 0, .iconst 1, 0, 0, 0), 
  (103, 3, .if_icmp .le 24, 127, 0, 0), (106, 22, .iinc 3 (-1), 0, 0, 0), (109, 1, .aload_n 2, 0, 0, 0), (110, 1, .iload_n 3, 0, 0, 0), 
  (111, 0, .iconst 1, 0, 0, 0), (112, 0, .isub, 0, 0, 0), (113, 1, .iload 5, 0, 0, 0), (115, 1, .aload_n 2, 0, 0, 0), (116, 1, .iload_n 3, 0, 0, 0), 
  (117, 0, .iconst 1, 0, 0, 0), (118, 0, .isub, 0, 0, 0), (119, 7, .iaload, 0, 0, 0), (120, 1, .aload_n 2, 0, 0, 0), (121, 1, .iload_n 3, 0, 0, 0), 
  (122, 7, .iaload, 0, 0, 0), (123, 12, .invokestatic 29, 112, 3, 0), (126, 8, .iastore, 0, 0, 0), (127, 22, .iinc 4 1, 0, 0, 0), 
  (130, 3, .goto (-125), 5, 0, 0), (133, 1, .iload_n 3, 0, 0, 0), (134, 3, .ifCond .le 9, 143, 0, 0), (137, 1, .aload_n 2, 0, 0, 0), 
  (138, 0, .iconst 0, 0, 0, 0), (139, 7, .iaload, 0, 0, 0), (140, 3, .goto 4, 144, 0, 0), (143, 0, .iconst 0, 0, 0, 0), (144, 13, .ireturn, 0, 0, 0)]
/-- TemperDowns$Rule.valueAt([II)I -/
noncomputable def zk111 : List (Nat × zJ) := [
  (0, 1, .iload_n 1, 0, 0, 0), (1, 3, .ifCond .lt 15, 16, 0, 0), (4, 1, .iload_n 1, 0, 0, 0), (5, 1, .aload_n 0, 0, 0, 0), 
  (6, 9, .arraylength, 0, 0, 0), (7, 3, .if_icmp .ge 9, 16, 0, 0), (10, 1, .aload_n 0, 0, 0, 0), (11, 1, .iload_n 1, 0, 0, 0), 
  (12, 7, .iaload, 0, 0, 0), (13, 3, .goto 4, 17, 0, 0), (16, 0, .iconst 0, 0, 0, 0), (17, 13, .ireturn, 0, 0, 0)]
/-- TemperDowns$Rule.join(III)I -/
noncomputable def zk112 : List (Nat × zJ) := [
  (0, 1, .iload_n 0, 0, 0, 0), (1, 4, .tableswitch 109 (-8) (-1) #[105, 101, 97, 86, 75, 109, 61, 47], 0, 0, 0), (48, 1, .iload_n 1, 0, 0, 0), 
  (49, 3, .ifCond .ne 7, 56, 0, 0), (52, 1, .iload_n 2, 0, 0, 0), (53, 3, .ifCond .eq 7, 60, 0, 0), (56, 0, .iconst 1, 0, 0, 0), 
  (57, 3, .goto 4, 61, 0, 0), (60, 0, .iconst 0, 0, 0, 0), (61, 13, .ireturn, 0, 0, 0), (62, 1, .iload_n 1, 0, 0, 0), 
  (63, 3, .ifCond .eq 11, 74, 0, 0), (66, 1, .iload_n 2, 0, 0, 0), (67, 3, .ifCond .eq 7, 74, 0, 0), (70, 0, .iconst 1, 0, 0, 0), 
  (71, 3, .goto 4, 75, 0, 0), (74, 0, .iconst 0, 0, 0, 0), (75, 13, .ireturn, 0, 0, 0), (76, 1, .iload_n 1, 0, 0, 0), (77, 1, .iload_n 2, 0, 0, 0), 
  (78, 3, .if_icmp .ge 7, 85, 0, 0), (81, 0, .iconst 1, 0, 0, 0), (82, 3, .goto 4, 86, 0, 0), (85, 0, .iconst 0, 0, 0, 0), (86, 13, .ireturn, 0, 0, 0), 
  (87, 1, .iload_n 1, 0, 0, 0), (88, 1, .iload_n 2, 0, 0, 0), (89, 3, .if_icmp .ne 7, 96, 0, 0), (92, 0, .iconst 1, 0, 0, 0), 
  (93, 3, .goto 4, 97, 0, 0), (96, 0, .iconst 0, 0, 0, 0), (97, 13, .ireturn, 0, 0, 0), (98, 1, .iload_n 1, 0, 0, 0), (99, 1, .iload_n 2, 0, 0, 0), 
  (100, 0, .iadd, 0, 0, 0), (101, 13, .ireturn, 0, 0, 0), (102, 1, .iload_n 1, 0, 0, 0), (103, 1, .iload_n 2, 0, 0, 0), (104, 0, .isub, 0, 0, 0), 
  (105, 13, .ireturn, 0, 0, 0), (106, 1, .iload_n 1, 0, 0, 0), (107, 1, .iload_n 2, 0, 0, 0), (108, 0, .imul, 0, 0, 0), (109, 13, .ireturn, 0, 0, 0), 
  (110, 1, .iload_n 2, 0, 0, 0), (111, 3, .ifCond .ne 7, 118, 0, 0), (114, 0, .iconst 0, 0, 0, 0), (115, 3, .goto 6, 121, 0, 0), 
  (118, 1, .iload_n 1, 0, 0, 0), (119, 1, .iload_n 2, 0, 0, 0), (120, 0, .idiv, 0, 0, 0), (121, 13, .ireturn, 0, 0, 0)]
/-- TemperDowns$Rule.add(I)V -/
noncomputable def zk113 : List (Nat × zJ) := [
  (0, 1, .aload_n 0, 0, 0, 0), (1, 5, .getfield 15, 9, 1, 0), (4, 1, .aload_n 0, 0, 0, 0), (5, 5, .getfield 9, 9, 0, 0), (8, 9, .arraylength, 0, 0, 0), 
  (9, 3, .if_icmp .ge 23, 32, 0, 0), (12, 1, .aload_n 0, 0, 0, 0), (13, 5, .getfield 9, 9, 0, 0), (16, 1, .aload_n 0, 0, 0, 0), 
  (17, 5, .getfield 15, 9, 1, 0), (20, 1, .iload_n 1, 0, 0, 0), (21, 8, .iastore, 0, 0, 0), (22, 1, .aload_n 0, 0, 0, 0), (23, 0, .dup, 0, 0, 0), 
  (24, 5, .getfield 15, 9, 1, 0), (27, 0, .iconst 1, 0, 0, 0), (28, 0, .iadd, 0, 0, 0), (29, 6, .putfield 15, 9, 1, 0), (32, 13, .return_, 0, 0, 0)]
/-- TemperDowns$Rule.copyFrom(LTemperDowns$Rule;)V -/
noncomputable def zk114 : List (Nat × zJ) := [
  (0, 1, .aload_n 0, 0, 0, 0), (1, 1, .aload_n 1, 0, 0, 0), (2, 5, .getfield 15, 9, 1, 0), (5, 6, .putfield 15, 9, 1, 0), (8, 1, .aload_n 1, 0, 0, 0), 
  (9, 5, .getfield 9, 9, 0, 0), (12, 0, .iconst 0, 0, 0, 0), (13, 1, .aload_n 0, 0, 0, 0), (14, 5, .getfield 9, 9, 0, 0), (17, 0, .iconst 0, 0, 0, 0), 
  (18, 1, .aload_n 0, 0, 0, 0), (19, 5, .getfield 15, 9, 1, 0), (22, 15, .invokestatic 19, 0, 0, 0), (25, 13, .return_, 0, 0, 0)]
/-- TemperDowns$Scene.<init>()V -/
noncomputable def zk115 : List (Nat × zJ) := [
  (0, 1, .aload_n 0, 0, 0, 0), (1, 19, .invokespecial 5, 0, 0, 0), (4, 1, .aload_n 0, 0, 0, 0), (5, 0, .bipush 70, 0, 0, 0), 
  (7, 11, .newarray .int, 0, 0, 0), (9, 6, .putfield 11, 10, 0, 3), (12, 13, .return_, 0, 0, 0)]
/-- TemperDowns$Scene.clear()V -/
noncomputable def zk116 : List (Nat × zJ) := [
  (0, 0, .iconst 0, 0, 0, 0), (1, 22, .istore_n 1, 0, 0, 0), (2, 1, .iload_n 1, 0, 0, 0), (3, 0, .bipush 70, 0, 0, 0), 
  (5, 3, .if_icmp .ge 16, 21, 0, 0), (8, 1, .aload_n 0, 0, 0, 0), (9, 5, .getfield 11, 10, 0, 0), (12, 1, .iload_n 1, 0, 0, 0), 
  (13, 0, .iconst 0, 0, 0, 0), (14, 8, .iastore, 0, 0, 0), (15, 22, .iinc 1 1, 0, 0, 0), (18, 3, .goto (-16), 2, 0, 0), (21, 0, .iconst 0, 0, 0, 0), 
  (22, 22, .istore_n 1, 0, 0, 0), (23, 1, .iload_n 1, 0, 0, 0), (24, 0, .bipush 10, 0, 0, 0), (26, 3, .if_icmp .ge 19, 45, 0, 0), 
  (29, 1, .aload_n 0, 0, 0, 0), (30, 5, .getfield 11, 10, 0, 0), (33, 0, .bipush 50, 0, 0, 0), (35, 1, .iload_n 1, 0, 0, 0), (36, 0, .iadd, 0, 0, 0), 
  (37, 0, .iconst (-1), 0, 0, 0), (38, 8, .iastore, 0, 0, 0), (39, 22, .iinc 1 1, 0, 0, 0), (42, 3, .goto (-19), 23, 0, 0), 
  (45, 13, .return_, 0, 0, 0)]
/-- TemperDowns$Scene.day()I -/
noncomputable def zk117 : List (Nat × zJ) := [
  (0, 1, .aload_n 0, 0, 0, 0), (1, 5, .getfield 11, 10, 0, 0), (4, 0, .iconst 0, 0, 0, 0), (5, 7, .iaload, 0, 0, 0), (6, 13, .ireturn, 0, 0, 0)]
/-- TemperDowns$Scene.temperOf(I)I -/
noncomputable def zk118 : List (Nat × zJ) := [
  (0, 1, .aload_n 0, 0, 0, 0), (1, 5, .getfield 11, 10, 0, 0), (4, 0, .bipush 9, 0, 0, 0), (6, 1, .iload_n 1, 0, 0, 0), (7, 0, .iadd, 0, 0, 0), 
  (8, 7, .iaload, 0, 0, 0), (9, 13, .ireturn, 0, 0, 0)]
/-- TemperDowns$Scene.mildOf(I)I -/
noncomputable def zk119 : List (Nat × zJ) := [
  (0, 1, .aload_n 0, 0, 0, 0), (1, 5, .getfield 11, 10, 0, 0), (4, 0, .iconst 2, 0, 0, 0), (5, 1, .iload_n 1, 0, 0, 0), (6, 0, .iadd, 0, 0, 0), 
  (7, 7, .iaload, 0, 0, 0), (8, 13, .ireturn, 0, 0, 0)]
/-- TemperDowns$Scene.shoutedBy(I)I -/
noncomputable def zk120 : List (Nat × zJ) := [
  (0, 1, .aload_n 0, 0, 0, 0), (1, 5, .getfield 11, 10, 0, 0), (4, 0, .bipush 16, 0, 0, 0), (6, 1, .iload_n 1, 0, 0, 0), (7, 0, .iadd, 0, 0, 0), 
  (8, 7, .iaload, 0, 0, 0), (9, 13, .ireturn, 0, 0, 0)]
/-- TemperDowns$Scene.heardBy(I)I -/
noncomputable def zk121 : List (Nat × zJ) := [
  (0, 1, .aload_n 0, 0, 0, 0), (1, 5, .getfield 11, 10, 0, 0), (4, 0, .bipush 23, 0, 0, 0), (6, 1, .iload_n 1, 0, 0, 0), (7, 0, .iadd, 0, 0, 0), 
  (8, 7, .iaload, 0, 0, 0), (9, 13, .ireturn, 0, 0, 0)]
/-- TemperDowns$Scene.setTemper(II)V -/
noncomputable def zk122 : List (Nat × zJ) := [
  (0, 1, .aload_n 0, 0, 0, 0), (1, 5, .getfield 11, 10, 0, 0), (4, 0, .bipush 9, 0, 0, 0), (6, 1, .iload_n 1, 0, 0, 0), (7, 0, .iadd, 0, 0, 0), 
  (8, 1, .iload_n 2, 0, 0, 0), (9, 0, .bipush 99, 0, 0, 0), (11, 21, .invokestatic 21, 0, 0, 0), (14, 8, .iastore, 0, 0, 0), 
  (15, 13, .return_, 0, 0, 0)]
/-- TemperDowns$Scene.isWhite(I)Z -/
noncomputable def zk123 : List (Nat × zJ) := [
  (0, 1, .aload_n 0, 0, 0, 0), (1, 5, .getfield 11, 10, 0, 0), (4, 0, .bipush 30, 0, 0, 0), (6, 1, .iload_n 1, 0, 0, 0), (7, 0, .iadd, 0, 0, 0), 
  (8, 7, .iaload, 0, 0, 0), (9, 3, .ifCond .ne 7, 16, 0, 0), (12, 0, .iconst 1, 0, 0, 0), (13, 3, .goto 4, 17, 0, 0), (16, 0, .iconst 0, 0, 0, 0), 
  (17, 13, .ireturn, 0, 0, 0)]
/-- TemperDowns$Scene.cellOf(I)I -/
noncomputable def zk124 : List (Nat × zJ) := [
  (0, 1, .aload_n 0, 0, 0, 0), (1, 5, .getfield 11, 10, 0, 0), (4, 0, .bipush 60, 0, 0, 0), (6, 1, .iload_n 1, 0, 0, 0), (7, 0, .iadd, 0, 0, 0), 
  (8, 7, .iaload, 0, 0, 0), (9, 13, .ireturn, 0, 0, 0)]
/-- TemperDowns$Scene.fill(III)V -/
noncomputable def zk125 : List (Nat × zJ) := [
  (0, 1, .aload_n 0, 0, 0, 0), (1, 5, .getfield 11, 10, 0, 0), (4, 0, .bipush 30, 0, 0, 0), (6, 1, .iload_n 1, 0, 0, 0), (7, 0, .iadd, 0, 0, 0), 
  (8, 1, .iload_n 2, 0, 0, 0), (9, 8, .iastore, 0, 0, 0), (10, 1, .aload_n 0, 0, 0, 0), (11, 5, .getfield 11, 10, 0, 0), (14, 0, .bipush 40, 0, 0, 0), 
  (16, 1, .iload_n 1, 0, 0, 0), (17, 0, .iadd, 0, 0, 0), (18, 0, .iconst 0, 0, 0, 0), (19, 8, .iastore, 0, 0, 0), (20, 1, .aload_n 0, 0, 0, 0), 
  (21, 5, .getfield 11, 10, 0, 0), (24, 0, .bipush 50, 0, 0, 0), (26, 1, .iload_n 1, 0, 0, 0), (27, 0, .iadd, 0, 0, 0), (28, 1, .iload_n 3, 0, 0, 0), 
  (29, 8, .iastore, 0, 0, 0), (30, 13, .return_, 0, 0, 0)]
/-- TemperDowns$Scene.shout(I)V -/
noncomputable def zk126 : List (Nat × zJ) := [
  (0, 1, .aload_n 0, 0, 0, 0), (1, 5, .getfield 11, 10, 0, 0), (4, 0, .bipush 16, 0, 0, 0), (6, 1, .iload_n 1, 0, 0, 0), (7, 0, .iadd, 0, 0, 0), 
  (8, 0, .dup2, 0, 0, 0), (9, 7, .iaload, 0, 0, 0), (10, 0, .iconst 1, 0, 0, 0), (11, 0, .iadd, 0, 0, 0), (12, 8, .iastore, 0, 0, 0), 
  (13, 1, .aload_n 0, 0, 0, 0), (14, 5, .getfield 11, 10, 0, 0), (17, 0, .bipush 9, 0, 0, 0), (19, 1, .iload_n 1, 0, 0, 0), (20, 0, .iadd, 0, 0, 0), 
  (21, 0, .dup2, 0, 0, 0), (22, 7, .iaload, 0, 0, 0), (23, 0, .iconst 2, 0, 0, 0), (24, 0, .idiv, 0, 0, 0), (25, 8, .iastore, 0, 0, 0), 
  (26, 13, .return_, 0, 0, 0)]
/-- TemperDowns$Scene.growOld(I)V -/
noncomputable def zk127 : List (Nat × zJ) := [
  (0, 1, .aload_n 0, 0, 0, 0), (1, 5, .getfield 11, 10, 0, 0), (4, 0, .bipush 40, 0, 0, 0), (6, 1, .iload_n 1, 0, 0, 0), (7, 0, .iadd, 0, 0, 0), 
  (8, 0, .dup2, 0, 0, 0), (9, 7, .iaload, 0, 0, 0), (10, 0, .iconst 1, 0, 0, 0), (11, 0, .iadd, 0, 0, 0), (12, 8, .iastore, 0, 0, 0), 
  (13, 13, .return_, 0, 0, 0)]
/-- TemperDowns$Scene.heldIn(I)I -/
noncomputable def zk128 : List (Nat × zJ) := [
  (0, 1, .aload_n 0, 0, 0, 0), (1, 5, .getfield 11, 10, 0, 0), (4, 0, .bipush 30, 0, 0, 0), (6, 1, .iload_n 1, 0, 0, 0), (7, 0, .iadd, 0, 0, 0), 
  (8, 7, .iaload, 0, 0, 0), (9, 13, .ireturn, 0, 0, 0)]
/-- TemperDowns$Scene.ageOf(I)I -/
noncomputable def zk129 : List (Nat × zJ) := [
  (0, 1, .aload_n 0, 0, 0, 0), (1, 5, .getfield 11, 10, 0, 0), (4, 0, .bipush 40, 0, 0, 0), (6, 1, .iload_n 1, 0, 0, 0), (7, 0, .iadd, 0, 0, 0), 
  (8, 7, .iaload, 0, 0, 0), (9, 13, .ireturn, 0, 0, 0)]
/-- TemperDowns$Scene.guards()I -/
noncomputable def zk130 : List (Nat × zJ) := [
  (0, 1, .aload_n 0, 0, 0, 0), (1, 5, .getfield 11, 10, 0, 0), (4, 0, .iconst 1, 0, 0, 0), (5, 7, .iaload, 0, 0, 0), (6, 13, .ireturn, 0, 0, 0)]
/-- TemperDowns$Scene.hear(II)V -/
noncomputable def zk131 : List (Nat × zJ) := [
  (0, 1, .aload_n 0, 0, 0, 0), (1, 5, .getfield 11, 10, 0, 0), (4, 0, .bipush 23, 0, 0, 0), (6, 1, .iload_n 1, 0, 0, 0), (7, 0, .iadd, 0, 0, 0), 
  (8, 1, .aload_n 0, 0, 0, 0), (9, 5, .getfield 11, 10, 0, 0), (12, 0, .bipush 23, 0, 0, 0), (14, 1, .iload_n 1, 0, 0, 0), (15, 0, .iadd, 0, 0, 0), 
  (16, 7, .iaload, 0, 0, 0), (17, 1, .iload_n 2, 0, 0, 0), (18, 0, .iadd, 0, 0, 0), (19, 0, .sipush 9999, 0, 0, 0), 
  (22, 21, .invokestatic 21, 0, 0, 0), (25, 8, .iastore, 0, 0, 0), (26, 1, .aload_n 0, 0, 0, 0), (27, 1, .iload_n 1, 0, 0, 0), 
  (28, 1, .aload_n 0, 0, 0, 0), (29, 1, .iload_n 1, 0, 0, 0), (30, 12, .invokevirtual 27, 118, 2, 11), (33, 0, .iconst 5, 0, 0, 0), 
  (34, 1, .iload_n 2, 0, 0, 0), (35, 0, .imul, 0, 0, 0), (36, 0, .iadd, 0, 0, 0), (37, 12, .invokevirtual 31, 122, 3, 11), (40, 13, .return_, 0, 0, 0)]
/-- TemperDowns$Scene.nextDay()V -/
noncomputable def zk132 : List (Nat × zJ) := [
  (0, 1, .aload_n 0, 0, 0, 0), (1, 5, .getfield 11, 10, 0, 0), (4, 0, .iconst 0, 0, 0, 0), (5, 0, .dup2, 0, 0, 0), (6, 7, .iaload, 0, 0, 0), 
  (7, 0, .iconst 1, 0, 0, 0), (8, 0, .iadd, 0, 0, 0), (9, 8, .iastore, 0, 0, 0), (10, 13, .return_, 0, 0, 0)]
/-- TemperDowns$Scene.copyFrom(LTemperDowns$Scene;)V -/
noncomputable def zk133 : List (Nat × zJ) := [
  (0, 1, .aload_n 1, 0, 0, 0), (1, 5, .getfield 11, 10, 0, 0), (4, 0, .iconst 0, 0, 0, 0), (5, 1, .aload_n 0, 0, 0, 0), (6, 5, .getfield 11, 10, 0, 0), 
  (9, 0, .iconst 0, 0, 0, 0), (10, 0, .bipush 70, 0, 0, 0), (12, 15, .invokestatic 15, 0, 0, 0), (15, 13, .return_, 0, 0, 0)]
/-- TemperDowns$Scene.setMild(II)V -/
noncomputable def zk134 : List (Nat × zJ) := [
  (0, 1, .aload_n 0, 0, 0, 0), (1, 5, .getfield 11, 10, 0, 0), (4, 0, .iconst 2, 0, 0, 0), (5, 1, .iload_n 1, 0, 0, 0), (6, 0, .iadd, 0, 0, 0), 
  (7, 1, .iload_n 2, 0, 0, 0), (8, 8, .iastore, 0, 0, 0), (9, 13, .return_, 0, 0, 0)]
/-- TemperDowns$Scene.setCell(II)V -/
noncomputable def zk135 : List (Nat × zJ) := [
  (0, 1, .aload_n 0, 0, 0, 0), (1, 5, .getfield 11, 10, 0, 0), (4, 0, .bipush 60, 0, 0, 0), (6, 1, .iload_n 1, 0, 0, 0), (7, 0, .iadd, 0, 0, 0), 
  (8, 1, .iload_n 2, 0, 0, 0), (9, 8, .iastore, 0, 0, 0), (10, 13, .return_, 0, 0, 0)]
/-- TemperDowns$Scene.isLoose(I)Z -/
noncomputable def zk136 : List (Nat × zJ) := [
  (0, 1, .aload_n 0, 0, 0, 0), (1, 1, .iload_n 1, 0, 0, 0), (2, 12, .invokevirtual 35, 123, 2, 11), (5, 3, .ifCond .ne 15, 20, 0, 0), 
  (8, 1, .aload_n 0, 0, 0, 0), (9, 1, .iload_n 1, 0, 0, 0), (10, 12, .invokevirtual 39, 137, 2, 11), (13, 3, .ifCond .ne 7, 20, 0, 0), 
  (16, 0, .iconst 1, 0, 0, 0), (17, 3, .goto 4, 21, 0, 0), (20, 0, .iconst 0, 0, 0, 0), (21, 13, .ireturn, 0, 0, 0)]
/-- TemperDowns$Scene.isGuarded(I)Z -/
noncomputable def zk137 : List (Nat × zJ) := [
  (0, 1, .aload_n 0, 0, 0, 0), (1, 5, .getfield 11, 10, 0, 0), (4, 0, .iconst 1, 0, 0, 0), (5, 7, .iaload, 0, 0, 0), (6, 0, .iconst 1, 0, 0, 0), 
  (7, 1, .iload_n 1, 0, 0, 0), (8, 0, .ishl, 0, 0, 0), (9, 0, .iand, 0, 0, 0), (10, 3, .ifCond .eq 7, 17, 0, 0), (13, 0, .iconst 1, 0, 0, 0), 
  (14, 3, .goto 4, 18, 0, 0), (17, 0, .iconst 0, 0, 0, 0), (18, 13, .ireturn, 0, 0, 0)]
/-- TemperDowns$Scene.ownerOf(I)I -/
noncomputable def zk138 : List (Nat × zJ) := [
  (0, 1, .aload_n 0, 0, 0, 0), (1, 5, .getfield 11, 10, 0, 0), (4, 0, .bipush 50, 0, 0, 0), (6, 1, .iload_n 1, 0, 0, 0), (7, 0, .iadd, 0, 0, 0), 
  (8, 7, .iaload, 0, 0, 0), (9, 13, .ireturn, 0, 0, 0)]
/-- TemperDowns$Scene.setGuards(I)V -/
noncomputable def zk139 : List (Nat × zJ) := [
  (0, 1, .aload_n 0, 0, 0, 0), (1, 5, .getfield 11, 10, 0, 0), (4, 0, .iconst 1, 0, 0, 0), (5, 1, .iload_n 1, 0, 0, 0), (6, 8, .iastore, 0, 0, 0), 
  (7, 13, .return_, 0, 0, 0)]
/-- TemperDowns.<init>()V -/
noncomputable def zk140 : List (Nat × zJ) := [
  (0, 1, .aload_n 0, 0, 0, 0), (1, 19, .invokespecial 3, 0, 0, 0), (4, 1, .aload_n 0, 0, 0, 0), (5, 0, .sipush 700, 0, 0, 0), 
  (8, 11, .newarray .int, 0, 0, 0), (10, 6, .putfield 9, 11, 0, 3), (13, 1, .aload_n 0, 0, 0, 0), (14, 0, .iconst (-1), 0, 0, 0), 
  (15, 6, .putfield 13, 11, 2, 0), (18, 1, .aload_n 0, 0, 0, 0), (19, 0, .iconst 3, 0, 0, 0), (20, 11, .newarray .int, 0, 0, 0), 
  (22, 6, .putfield 17, 11, 3, 3), (25, 1, .aload_n 0, 0, 0, 0), (26, 10, .new 20, 5, 0, 0), (29, 0, .dup, 0, 0, 0), 
  (30, 12, .invokespecial 22, 57, 1, 99), (33, 6, .putfield 23, 11, 4, 3), (36, 1, .aload_n 0, 0, 0, 0), (37, 10, .new 27, 8, 0, 0), 
  (40, 0, .dup, 0, 0, 0), (41, 1, .aload_n 0, 0, 0, 0), (42, 5, .getfield 9, 11, 0, 0), (45, 12, .invokespecial 29, 82, 2, 99), 
  (48, 6, .putfield 32, 11, 5, 3), (51, 1, .aload_n 0, 0, 0, 0), (52, 10, .new 36, 0, 0, 0), (55, 0, .dup, 0, 0, 0), 
  (56, 12, .invokespecial 38, 0, 1, 99), (59, 6, .putfield 39, 11, 6, 3), (62, 1, .aload_n 0, 0, 0, 0), (63, 10, .new 36, 0, 0, 0), 
  (66, 0, .dup, 0, 0, 0), (67, 12, .invokespecial 38, 0, 1, 99), (70, 6, .putfield 43, 11, 7, 3), (73, 1, .aload_n 0, 0, 0, 0), 
  (74, 1, .aload_n 0, 0, 0, 0), (75, 5, .getfield 39, 11, 6, 0), (78, 5, .getfield 46, 0, 0, 0), (81, 6, .putfield 50, 11, 9, 3), 
  (84, 1, .aload_n 0, 0, 0, 0), (85, 10, .new 53, 2, 0, 0), (88, 0, .dup, 0, 0, 0), (89, 1, .aload_n 0, 0, 0, 0), (90, 5, .getfield 23, 11, 4, 0), 
  (93, 12, .invokespecial 55, 17, 2, 99), (96, 6, .putfield 58, 11, 10, 3), (99, 1, .aload_n 0, 0, 0, 0), (100, 10, .new 62, 3, 0, 0), 
  (103, 0, .dup, 0, 0, 0), (104, 1, .aload_n 0, 0, 0, 0), (105, 5, .getfield 58, 11, 10, 0), (108, 1, .aload_n 0, 0, 0, 0), 
  (109, 5, .getfield 50, 11, 9, 0), (112, 12, .invokespecial 64, 41, 3, 99), (115, 6, .putfield 67, 11, 11, 3), (118, 1, .aload_n 0, 0, 0, 0), 
  (119, 10, .new 71, 6, 0, 0), (122, 0, .dup, 0, 0, 0), (123, 1, .aload_n 0, 0, 0, 0), (124, 5, .getfield 58, 11, 10, 0), 
  (127, 1, .aload_n 0, 0, 0, 0), (128, 5, .getfield 50, 11, 9, 0), (131, 12, .invokespecial 73, 62, 3, 99), (134, 6, .putfield 74, 11, 12, 3), 
  (137, 1, .aload_n 0, 0, 0, 0), (138, 10, .new 78, 7, 0, 0), (141, 0, .dup, 0, 0, 0), (142, 1, .aload_n 0, 0, 0, 0), (143, 5, .getfield 23, 11, 4, 0), 
  (146, 1, .aload_n 0, 0, 0, 0), (147, 5, .getfield 50, 11, 9, 0), (150, 12, .invokespecial 80, 72, 3, 99), (153, 6, .putfield 83, 11, 13, 3), 
  (156, 1, .aload_n 0, 0, 0, 0), (157, 10, .new 87, 4, 0, 0), (160, 0, .dup, 0, 0, 0), (161, 1, .aload_n 0, 0, 0, 0), 
  (162, 5, .getfield 58, 11, 10, 0), (165, 1, .aload_n 0, 0, 0, 0), (166, 5, .getfield 39, 11, 6, 0), (169, 12, .invokespecial 89, 48, 3, 99), 
  (172, 6, .putfield 92, 11, 14, 3), (175, 1, .aload_n 0, 0, 0, 0), (176, 10, .new 96, 1, 0, 0), (179, 0, .dup, 0, 0, 0), 
  (180, 1, .aload_n 0, 0, 0, 0), (181, 5, .getfield 58, 11, 10, 0), (184, 1, .aload_n 0, 0, 0, 0), (185, 5, .getfield 50, 11, 9, 0), 
  (188, 12, .invokespecial 98, 6, 3, 99), (191, 6, .putfield 99, 11, 15, 3), (194, 13, .return_, 0, 0, 0)]
/-- TemperDowns.feed(IIIII)I -/
noncomputable def zk141 : List (Nat × zJ) := [
  (0, 1, .aload_n 0, 0, 0, 0), (1, 5, .getfield 103, 11, 1, 0), (4, 0, .bipush 20, 0, 0, 0), (6, 0, .iadd, 0, 0, 0), (7, 0, .sipush 700, 0, 0, 0), 
  (10, 3, .if_icmp .le 5, 15, 0, 0), (13, 0, .iconst (-1), 0, 0, 0), (14, 13, .ireturn, 0, 0, 0), (15, 1, .aload_n 0, 0, 0, 0), 
  (16, 1, .iload_n 1, 0, 0, 0), (17, 12, .invokevirtual 106, 142, 2, 12), (20, 1, .aload_n 0, 0, 0, 0), (21, 1, .iload_n 2, 0, 0, 0), 
  (22, 12, .invokevirtual 106, 142, 2, 12), (25, 1, .aload_n 0, 0, 0, 0), (26, 1, .iload_n 3, 0, 0, 0), (27, 12, .invokevirtual 106, 142, 2, 12), 
  (30, 1, .aload_n 0, 0, 0, 0), (31, 1, .iload 4, 0, 0, 0), (33, 12, .invokevirtual 106, 142, 2, 12), (36, 1, .aload_n 0, 0, 0, 0), 
  (37, 1, .iload 5, 0, 0, 0), (39, 12, .invokevirtual 106, 142, 2, 12), (42, 1, .aload_n 0, 0, 0, 0), (43, 5, .getfield 103, 11, 1, 0), 
  (46, 13, .ireturn, 0, 0, 0)]
/-- TemperDowns.append(I)V -/
noncomputable def zk142 : List (Nat × zJ) := [
  (0, 0, .bipush 24, 0, 0, 0), (2, 22, .istore_n 2, 0, 0, 0), (3, 1, .iload_n 2, 0, 0, 0), (4, 3, .ifCond .lt 45, 49, 0, 0), 
  (7, 1, .aload_n 0, 0, 0, 0), (8, 5, .getfield 103, 11, 1, 0), (11, 0, .sipush 700, 0, 0, 0), (14, 3, .if_icmp .ge 35, 49, 0, 0), 
  (17, 1, .aload_n 0, 0, 0, 0), (18, 5, .getfield 9, 11, 0, 0), (21, 1, .aload_n 0, 0, 0, 0), (22, 5, .getfield 103, 11, 1, 0), 
  (25, 1, .iload_n 1, 0, 0, 0), (26, 1, .iload_n 2, 0, 0, 0), (27, 0, .iushr, 0, 0, 0), (28, 0, .sipush 255, 0, 0, 0), (31, 0, .iand, 0, 0, 0), 
  (32, 8, .iastore, 0, 0, 0), (33, 1, .aload_n 0, 0, 0, 0), (34, 0, .dup, 0, 0, 0), (35, 5, .getfield 103, 11, 1, 0), (38, 0, .iconst 1, 0, 0, 0), 
  (39, 0, .iadd, 0, 0, 0), (40, 6, .putfield 103, 11, 1, 0), (43, 22, .iinc 2 (-8), 0, 0, 0), (46, 3, .goto (-43), 3, 0, 0), 
  (49, 13, .return_, 0, 0, 0)]
/-- TemperDowns.fault()I -/
noncomputable def zk143 : List (Nat × zJ) := [
  (0, 1, .aload_n 0, 0, 0, 0), (1, 5, .getfield 13, 11, 2, 0), (4, 13, .ireturn, 0, 0, 0)]
/-- TemperDowns.days(I)I -/
noncomputable def zk144 : List (Nat × zJ) := [
  (0, 1, .iload_n 1, 0, 0, 0), (1, 0, .iconst 1, 0, 0, 0), (2, 3, .if_icmp .lt 24, 26, 0, 0), (5, 1, .iload_n 1, 0, 0, 0), (6, 0, .bipush 20, 0, 0, 0), 
  (8, 3, .if_icmp .gt 18, 26, 0, 0), (11, 1, .aload_n 0, 0, 0, 0), (12, 5, .getfield 50, 11, 9, 0), (15, 12, .invokevirtual 151, 117, 1, 11), 
  (18, 1, .iload_n 1, 0, 0, 0), (19, 0, .iadd, 0, 0, 0), (20, 0, .sipush 9999, 0, 0, 0), (23, 3, .if_icmp .le 9, 32, 0, 0), 
  (26, 1, .aload_n 0, 0, 0, 0), (27, 0, .iconst 1, 0, 0, 0), (28, 12, .invokevirtual 244, 145, 2, 12), (31, 13, .ireturn, 0, 0, 0), 
  (32, 1, .aload_n 0, 0, 0, 0), (33, 5, .getfield 39, 11, 6, 0), (36, 12, .invokevirtual 247, 1, 1, 1), (39, 0, .iconst 0, 0, 0, 0), 
  (40, 22, .istore_n 2, 0, 0, 0), (41, 1, .iload_n 2, 0, 0, 0), (42, 1, .iload_n 1, 0, 0, 0), (43, 3, .if_icmp .ge 20, 63, 0, 0), 
  (46, 1, .aload_n 0, 0, 0, 0), (47, 5, .getfield 58, 11, 10, 0), (50, 1, .aload_n 0, 0, 0, 0), (51, 5, .getfield 50, 11, 9, 0), 
  (54, 12, .invokevirtual 250, 18, 2, 3), (57, 22, .iinc 2 1, 0, 0, 0), (60, 3, .goto (-19), 41, 0, 0), (63, 1, .aload_n 0, 0, 0, 0), 
  (64, 5, .getfield 50, 11, 9, 0), (67, 12, .invokevirtual 151, 117, 1, 11), (70, 13, .ireturn, 0, 0, 0)]
/-- TemperDowns.refuse(I)I -/
noncomputable def zk145 : List (Nat × zJ) := [
  (0, 1, .aload_n 0, 0, 0, 0), (1, 5, .getfield 17, 11, 3, 0), (4, 1, .iload_n 1, 0, 0, 0), (5, 0, .dup2, 0, 0, 0), (6, 7, .iaload, 0, 0, 0), 
  (7, 0, .iconst 1, 0, 0, 0), (8, 0, .iadd, 0, 0, 0), (9, 8, .iastore, 0, 0, 0), (10, 0, .iconst (-1), 0, 0, 0), (11, 13, .ireturn, 0, 0, 0)]
/-- TemperDowns.undo()I -/
noncomputable def zk146 : List (Nat × zJ) := [
  (0, 1, .aload_n 0, 0, 0, 0), (1, 5, .getfield 39, 11, 6, 0), (4, 5, .getfield 176, 0, 1, 0), (7, 3, .ifCond .ne 5, 12, 0, 0), 
  (10, 0, .iconst (-1), 0, 0, 0), (11, 13, .ireturn, 0, 0, 0), (12, 1, .aload_n 0, 0, 0, 0), (13, 5, .getfield 39, 11, 6, 0), 
  (16, 12, .invokevirtual 277, 2, 1, 1), (19, 1, .aload_n 0, 0, 0, 0), (20, 5, .getfield 39, 11, 6, 0), (23, 5, .getfield 176, 0, 1, 0), 
  (26, 13, .ireturn, 0, 0, 0)]
/-- TemperDowns.first()I -/
noncomputable def zk147 : List (Nat × zJ) := [
  (0, 1, .aload_n 0, 0, 0, 0), (1, 5, .getfield 67, 11, 11, 0), (4, 12, .invokevirtual 294, 42, 1, 4), (7, 13, .ireturn, 0, 0, 0)]
/-- TemperDowns.forget()V -/
noncomputable def zk148 : List (Nat × zJ) := [
  (0, 1, .aload_n 0, 0, 0, 0), (1, 5, .getfield 39, 11, 6, 0), (4, 0, .iconst 0, 0, 0, 0), (5, 6, .putfield 179, 0, 3, 0), (8, 13, .return_, 0, 0, 0)]
/-- TemperDowns.image()V -/
noncomputable def zk149 : List (Nat × zJ) := [
  (0, 1, .aload_n 0, 0, 0, 0), (1, 5, .getfield 43, 11, 7, 0), (4, 1, .aload_n 0, 0, 0, 0), (5, 5, .getfield 39, 11, 6, 0), 
  (8, 12, .invokevirtual 395, 3, 2, 1), (11, 1, .aload_n 0, 0, 0, 0), (12, 0, .iconst 1, 0, 0, 0), (13, 6, .putfield 135, 11, 8, 2), 
  (16, 13, .return_, 0, 0, 0)]
/-- TemperDowns.restore()Z -/
noncomputable def zk150 : List (Nat × zJ) := [
  (0, 1, .aload_n 0, 0, 0, 0), (1, 5, .getfield 135, 11, 8, 0), (4, 3, .ifCond .ne 5, 9, 0, 0), (7, 0, .iconst 0, 0, 0, 0), (8, 13, .ireturn, 0, 0, 0), 
  (9, 1, .aload_n 0, 0, 0, 0), (10, 5, .getfield 39, 11, 6, 0), (13, 1, .aload_n 0, 0, 0, 0), (14, 5, .getfield 43, 11, 7, 0), 
  (17, 12, .invokevirtual 395, 3, 2, 1), (20, 0, .iconst 1, 0, 0, 0), (21, 13, .ireturn, 0, 0, 0)]
/-- TemperDowns.county(I)I -/
noncomputable def zk151 : List (Nat × zJ) := [
  (0, 1, .iload_n 1, 0, 0, 0), (1, 3, .ifCond .lt 11, 12, 0, 0), (4, 1, .iload_n 1, 0, 0, 0), (5, 1, .aload_n 0, 0, 0, 0), 
  (6, 5, .getfield 103, 11, 1, 0), (9, 3, .if_icmp .le 13, 22, 0, 0), (12, 14, .new 110, 1, 0, 0), (22, 1, .aload_n 0, 0, 0, 0), 
  (23, 0, .iconst 0, 0, 0, 0), (24, 6, .putfield 103, 11, 1, 0), (27, 1, .aload_n 0, 0, 0, 0), (28, 5, .getfield 32, 11, 5, 0), 
  (31, 1, .iload_n 1, 0, 0, 0), (32, 12, .invokevirtual 117, 83, 2, 9), (35, 22, .istore_n 2, 0, 0, 0), (36, 1, .iload_n 2, 0, 0, 0), 
  (37, 3, .ifCond .eq 26, 63, 0, 0), (40, 1, .aload_n 0, 0, 0, 0), (41, 5, .getfield 17, 11, 3, 0), (44, 0, .iconst 0, 0, 0, 0), 
  (45, 0, .dup2, 0, 0, 0), (46, 7, .iaload, 0, 0, 0), (47, 0, .iconst 1, 0, 0, 0), (48, 0, .iadd, 0, 0, 0), (49, 8, .iastore, 0, 0, 0), 
  (50, 1, .aload_n 0, 0, 0, 0), (51, 1, .aload_n 0, 0, 0, 0), (52, 5, .getfield 32, 11, 5, 0), (55, 5, .getfield 121, 8, 2, 0), 
  (58, 6, .putfield 13, 11, 2, 0), (61, 1, .iload_n 2, 0, 0, 0), (62, 13, .ireturn, 0, 0, 0), (63, 1, .aload_n 0, 0, 0, 0), 
  (64, 0, .iconst (-1), 0, 0, 0), (65, 6, .putfield 13, 11, 2, 0), (68, 1, .aload_n 0, 0, 0, 0), (69, 5, .getfield 23, 11, 4, 0), 
  (72, 1, .aload_n 0, 0, 0, 0), (73, 5, .getfield 32, 11, 5, 0), (76, 5, .getfield 124, 8, 0, 0), (79, 12, .invokevirtual 125, 61, 2, 6), 
  (82, 1, .aload_n 0, 0, 0, 0), (83, 5, .getfield 39, 11, 6, 0), (86, 1, .aload_n 0, 0, 0, 0), (87, 5, .getfield 32, 11, 5, 0), 
  (90, 5, .getfield 128, 8, 1, 0), (93, 12, .invokevirtual 131, 4, 2, 1), (96, 1, .aload_n 0, 0, 0, 0), (97, 0, .iconst 0, 0, 0, 0), 
  (98, 6, .putfield 135, 11, 8, 2), (101, 0, .iconst 0, 0, 0, 0), (102, 13, .ireturn, 0, 0, 0)]
/-- TemperDowns.count(I)I -/
noncomputable def zk152 : List (Nat × zJ) := [
  (0, 1, .iload_n 1, 0, 0, 0), 
  (1, 4, .tableswitch 229 0 16 #[83, 91, 99, 107, 115, 123, 135, 143, 155, 167, 179, 187, 195, 203, 208, 215, 222], 0, 0, 0), 
  (84, 1, .aload_n 0, 0, 0, 0), (85, 5, .getfield 23, 11, 4, 0), (88, 5, .getfield 139, 5, 3, 0), (91, 13, .ireturn, 0, 0, 0), 
  (92, 1, .aload_n 0, 0, 0, 0), (93, 5, .getfield 23, 11, 4, 0), (96, 5, .getfield 142, 5, 4, 0), (99, 13, .ireturn, 0, 0, 0), 
  (100, 1, .aload_n 0, 0, 0, 0), (101, 5, .getfield 23, 11, 4, 0), (104, 5, .getfield 145, 5, 0, 0), (107, 13, .ireturn, 0, 0, 0), 
  (108, 1, .aload_n 0, 0, 0, 0), (109, 5, .getfield 23, 11, 4, 0), (112, 5, .getfield 148, 5, 1, 0), (115, 13, .ireturn, 0, 0, 0), 
  (116, 1, .aload_n 0, 0, 0, 0), (117, 5, .getfield 50, 11, 9, 0), (120, 12, .invokevirtual 151, 117, 1, 11), (123, 13, .ireturn, 0, 0, 0), 
  (124, 1, .aload_n 0, 0, 0, 0), (125, 5, .getfield 58, 11, 10, 0), (128, 1, .aload_n 0, 0, 0, 0), (129, 5, .getfield 50, 11, 9, 0), 
  (132, 12, .invokevirtual 157, 30, 2, 3), (135, 13, .ireturn, 0, 0, 0), (136, 1, .aload_n 0, 0, 0, 0), (137, 5, .getfield 50, 11, 9, 0), 
  (140, 12, .invokevirtual 161, 130, 1, 11), (143, 13, .ireturn, 0, 0, 0), (144, 1, .aload_n 0, 0, 0, 0), (145, 5, .getfield 58, 11, 10, 0), 
  (148, 1, .aload_n 0, 0, 0, 0), (149, 5, .getfield 50, 11, 9, 0), (152, 12, .invokevirtual 164, 31, 2, 3), (155, 13, .ireturn, 0, 0, 0), 
  (156, 1, .aload_n 0, 0, 0, 0), (157, 5, .getfield 58, 11, 10, 0), (160, 1, .aload_n 0, 0, 0, 0), (161, 5, .getfield 50, 11, 9, 0), 
  (164, 12, .invokevirtual 167, 32, 2, 3), (167, 13, .ireturn, 0, 0, 0), (168, 1, .aload_n 0, 0, 0, 0), (169, 5, .getfield 58, 11, 10, 0), 
  (172, 1, .aload_n 0, 0, 0, 0), (173, 5, .getfield 50, 11, 9, 0), (176, 12, .invokevirtual 170, 33, 2, 3), (179, 13, .ireturn, 0, 0, 0), 
  (180, 1, .aload_n 0, 0, 0, 0), (181, 5, .getfield 74, 11, 12, 0), (184, 12, .invokevirtual 173, 63, 1, 7), (187, 13, .ireturn, 0, 0, 0), 
  (188, 1, .aload_n 0, 0, 0, 0), (189, 5, .getfield 39, 11, 6, 0), (192, 5, .getfield 176, 0, 1, 0), (195, 13, .ireturn, 0, 0, 0), 
  (196, 1, .aload_n 0, 0, 0, 0), (197, 5, .getfield 39, 11, 6, 0), (200, 5, .getfield 179, 0, 3, 0), (203, 13, .ireturn, 0, 0, 0), 
  (204, 1, .aload_n 0, 0, 0, 0), (205, 5, .getfield 103, 11, 1, 0), (208, 13, .ireturn, 0, 0, 0), (209, 1, .aload_n 0, 0, 0, 0), 
  (210, 5, .getfield 17, 11, 3, 0), (213, 0, .iconst 0, 0, 0, 0), (214, 7, .iaload, 0, 0, 0), (215, 13, .ireturn, 0, 0, 0), 
  (216, 1, .aload_n 0, 0, 0, 0), (217, 5, .getfield 17, 11, 3, 0), (220, 0, .iconst 1, 0, 0, 0), (221, 7, .iaload, 0, 0, 0), 
  (222, 13, .ireturn, 0, 0, 0), (223, 1, .aload_n 0, 0, 0, 0), (224, 5, .getfield 17, 11, 3, 0), (227, 0, .iconst 2, 0, 0, 0), 
  (228, 7, .iaload, 0, 0, 0), (229, 13, .ireturn, 0, 0, 0), (230, 14, .new 182, 0, 0, 0)]
/-- TemperDowns.person(II)I -/
noncomputable def zk153 : List (Nat × zJ) := [
  (0, 1, .aload_n 0, 0, 0, 0), (1, 1, .iload_n 1, 0, 0, 0), (2, 12, .invokevirtual 187, 154, 2, 12), (5, 1, .iload_n 2, 0, 0, 0), 
  (6, 4, .tableswitch 114 0 6 #[42, 52, 61, 70, 79, 88, 101], 0, 0, 0), (48, 1, .aload_n 0, 0, 0, 0), (49, 5, .getfield 23, 11, 4, 0), 
  (52, 5, .getfield 190, 5, 5, 0), (55, 1, .iload_n 1, 0, 0, 0), (56, 7, .iaload, 0, 0, 0), (57, 13, .ireturn, 0, 0, 0), (58, 1, .aload_n 0, 0, 0, 0), 
  (59, 5, .getfield 50, 11, 9, 0), (62, 1, .iload_n 1, 0, 0, 0), (63, 12, .invokevirtual 193, 119, 2, 11), (66, 13, .ireturn, 0, 0, 0), 
  (67, 1, .aload_n 0, 0, 0, 0), (68, 5, .getfield 50, 11, 9, 0), (71, 1, .iload_n 1, 0, 0, 0), (72, 12, .invokevirtual 196, 118, 2, 11), 
  (75, 13, .ireturn, 0, 0, 0), (76, 1, .aload_n 0, 0, 0, 0), (77, 5, .getfield 50, 11, 9, 0), (80, 1, .iload_n 1, 0, 0, 0), 
  (81, 12, .invokevirtual 199, 120, 2, 11), (84, 13, .ireturn, 0, 0, 0), (85, 1, .aload_n 0, 0, 0, 0), (86, 5, .getfield 50, 11, 9, 0), 
  (89, 1, .iload_n 1, 0, 0, 0), (90, 12, .invokevirtual 202, 121, 2, 11), (93, 13, .ireturn, 0, 0, 0), (94, 1, .aload_n 0, 0, 0, 0), 
  (95, 5, .getfield 58, 11, 10, 0), (98, 1, .aload_n 0, 0, 0, 0), (99, 5, .getfield 50, 11, 9, 0), (102, 1, .iload_n 1, 0, 0, 0), 
  (103, 12, .invokevirtual 205, 34, 3, 3), (106, 13, .ireturn, 0, 0, 0), (107, 1, .aload_n 0, 0, 0, 0), (108, 5, .getfield 58, 11, 10, 0), 
  (111, 1, .aload_n 0, 0, 0, 0), (112, 5, .getfield 50, 11, 9, 0), (115, 1, .iload_n 1, 0, 0, 0), (116, 12, .invokevirtual 209, 22, 3, 3), 
  (119, 13, .ireturn, 0, 0, 0), (120, 14, .new 182, 0, 0, 0)]
/-- TemperDowns.needPerson(I)V -/
noncomputable def zk154 : List (Nat × zJ) := [
  (0, 1, .iload_n 1, 0, 0, 0), (1, 3, .ifCond .lt 14, 15, 0, 0), (4, 1, .iload_n 1, 0, 0, 0), (5, 1, .aload_n 0, 0, 0, 0), 
  (6, 5, .getfield 23, 11, 4, 0), (9, 5, .getfield 139, 5, 3, 0), (12, 3, .if_icmp .lt 14, 26, 0, 0), (15, 14, .new 182, 0, 0, 0), 
  (26, 13, .return_, 0, 0, 0)]
/-- TemperDowns.ball(II)I -/
noncomputable def zk155 : List (Nat × zJ) := [
  (0, 1, .aload_n 0, 0, 0, 0), (1, 1, .iload_n 1, 0, 0, 0), (2, 12, .invokevirtual 214, 156, 2, 12), (5, 1, .iload_n 2, 0, 0, 0), 
  (6, 4, .tableswitch 146 0 7 #[46, 55, 65, 74, 83, 92, 109, 122], 0, 0, 0), (52, 1, .aload_n 0, 0, 0, 0), (53, 5, .getfield 50, 11, 9, 0), 
  (56, 1, .iload_n 1, 0, 0, 0), (57, 12, .invokevirtual 217, 124, 2, 11), (60, 13, .ireturn, 0, 0, 0), (61, 1, .aload_n 0, 0, 0, 0), 
  (62, 5, .getfield 23, 11, 4, 0), (65, 5, .getfield 220, 5, 6, 0), (68, 1, .iload_n 1, 0, 0, 0), (69, 7, .iaload, 0, 0, 0), 
  (70, 13, .ireturn, 0, 0, 0), (71, 1, .aload_n 0, 0, 0, 0), (72, 5, .getfield 50, 11, 9, 0), (75, 1, .iload_n 1, 0, 0, 0), 
  (76, 12, .invokevirtual 223, 128, 2, 11), (79, 13, .ireturn, 0, 0, 0), (80, 1, .aload_n 0, 0, 0, 0), (81, 5, .getfield 50, 11, 9, 0), 
  (84, 1, .iload_n 1, 0, 0, 0), (85, 12, .invokevirtual 226, 129, 2, 11), (88, 13, .ireturn, 0, 0, 0), (89, 1, .aload_n 0, 0, 0, 0), 
  (90, 5, .getfield 50, 11, 9, 0), (93, 1, .iload_n 1, 0, 0, 0), (94, 12, .invokevirtual 229, 138, 2, 11), (97, 13, .ireturn, 0, 0, 0), 
  (98, 1, .aload_n 0, 0, 0, 0), (99, 5, .getfield 50, 11, 9, 0), (102, 1, .iload_n 1, 0, 0, 0), (103, 12, .invokevirtual 232, 137, 2, 11), 
  (106, 3, .ifCond .eq 7, 113, 0, 0), (109, 0, .iconst 1, 0, 0, 0), (110, 3, .goto 4, 114, 0, 0), (113, 0, .iconst 0, 0, 0, 0), 
  (114, 13, .ireturn, 0, 0, 0), (115, 1, .aload_n 0, 0, 0, 0), (116, 5, .getfield 58, 11, 10, 0), (119, 1, .aload_n 0, 0, 0, 0), 
  (120, 5, .getfield 50, 11, 9, 0), (123, 1, .iload_n 1, 0, 0, 0), (124, 12, .invokevirtual 236, 35, 3, 3), (127, 13, .ireturn, 0, 0, 0), 
  (128, 1, .aload_n 0, 0, 0, 0), (129, 5, .getfield 58, 11, 10, 0), (132, 1, .aload_n 0, 0, 0, 0), (133, 5, .getfield 50, 11, 9, 0), 
  (136, 1, .aload_n 0, 0, 0, 0), (137, 5, .getfield 58, 11, 10, 0), (140, 1, .aload_n 0, 0, 0, 0), (141, 5, .getfield 50, 11, 9, 0), 
  (144, 1, .iload_n 1, 0, 0, 0), (145, 12, .invokevirtual 236, 35, 3, 3), (148, 12, .invokevirtual 239, 36, 3, 3), (151, 13, .ireturn, 0, 0, 0), 
  (152, 14, .new 182, 0, 0, 0)]
/-- TemperDowns.needBall(I)V -/
noncomputable def zk156 : List (Nat × zJ) := [
  (0, 1, .iload_n 1, 0, 0, 0), (1, 3, .ifCond .lt 14, 15, 0, 0), (4, 1, .iload_n 1, 0, 0, 0), (5, 1, .aload_n 0, 0, 0, 0), 
  (6, 5, .getfield 23, 11, 4, 0), (9, 5, .getfield 142, 5, 4, 0), (12, 3, .if_icmp .lt 14, 26, 0, 0), (15, 14, .new 182, 0, 0, 0), 
  (26, 13, .return_, 0, 0, 0)]
/-- TemperDowns.tread(I)I -/
noncomputable def zk157 : List (Nat × zJ) := [
  (0, 1, .aload_n 0, 0, 0, 0), (1, 1, .iload_n 1, 0, 0, 0), (2, 12, .invokevirtual 214, 156, 2, 12), (5, 1, .aload_n 0, 0, 0, 0), 
  (6, 5, .getfield 50, 11, 9, 0), (9, 1, .iload_n 1, 0, 0, 0), (10, 12, .invokevirtual 253, 136, 2, 11), (13, 3, .ifCond .ne 9, 22, 0, 0), 
  (16, 1, .aload_n 0, 0, 0, 0), (17, 0, .iconst 1, 0, 0, 0), (18, 12, .invokevirtual 244, 145, 2, 12), (21, 13, .ireturn, 0, 0, 0), 
  (22, 1, .aload_n 0, 0, 0, 0), (23, 5, .getfield 39, 11, 6, 0), (26, 12, .invokevirtual 247, 1, 1, 1), (29, 1, .aload_n 0, 0, 0, 0), 
  (30, 5, .getfield 58, 11, 10, 0), (33, 1, .aload_n 0, 0, 0, 0), (34, 5, .getfield 50, 11, 9, 0), (37, 0, .iconst 1, 0, 0, 0), 
  (38, 1, .iload_n 1, 0, 0, 0), (39, 0, .ishl, 0, 0, 0), (40, 12, .invokevirtual 256, 27, 3, 3), (43, 12, .invokestatic 259, 332, 1, 0), 
  (46, 13, .ireturn, 0, 0, 0)]
/-- TemperDowns.carry(II)I -/
noncomputable def zk158 : List (Nat × zJ) := [
  (0, 1, .aload_n 0, 0, 0, 0), (1, 1, .iload_n 1, 0, 0, 0), (2, 12, .invokevirtual 214, 156, 2, 12), (5, 1, .aload_n 0, 0, 0, 0), 
  (6, 1, .iload_n 2, 0, 0, 0), (7, 12, .invokevirtual 264, 159, 2, 12), (10, 1, .aload_n 0, 0, 0, 0), (11, 5, .getfield 50, 11, 9, 0), 
  (14, 1, .iload_n 1, 0, 0, 0), (15, 12, .invokevirtual 217, 124, 2, 11), (18, 22, .istore_n 3, 0, 0, 0), (19, 1, .iload_n 3, 0, 0, 0), 
  (20, 1, .iload_n 2, 0, 0, 0), (21, 3, .if_icmp .ne 9, 30, 0, 0), (24, 1, .aload_n 0, 0, 0, 0), (25, 0, .iconst 1, 0, 0, 0), 
  (26, 12, .invokevirtual 244, 145, 2, 12), (29, 13, .ireturn, 0, 0, 0), (30, 1, .aload_n 0, 0, 0, 0), (31, 5, .getfield 39, 11, 6, 0), 
  (34, 12, .invokevirtual 247, 1, 1, 1), (37, 1, .aload_n 0, 0, 0, 0), (38, 5, .getfield 50, 11, 9, 0), (41, 1, .iload_n 1, 0, 0, 0), 
  (42, 1, .iload_n 2, 0, 0, 0), (43, 12, .invokevirtual 267, 135, 3, 11), (46, 1, .iload_n 3, 0, 0, 0), (47, 13, .ireturn, 0, 0, 0)]
/-- TemperDowns.needCell(I)V -/
noncomputable def zk159 : List (Nat × zJ) := [
  (0, 1, .iload_n 1, 0, 0, 0), (1, 3, .ifCond .lt 14, 15, 0, 0), (4, 1, .iload_n 1, 0, 0, 0), (5, 1, .aload_n 0, 0, 0, 0), 
  (6, 5, .getfield 23, 11, 4, 0), (9, 5, .getfield 402, 5, 2, 0), (12, 3, .if_icmp .lt 14, 26, 0, 0), (15, 14, .new 182, 0, 0, 0), 
  (26, 13, .return_, 0, 0, 0)]
/-- TemperDowns.guard(IZ)Z -/
noncomputable def zk160 : List (Nat × zJ) := [
  (0, 1, .aload_n 0, 0, 0, 0), (1, 1, .iload_n 1, 0, 0, 0), (2, 12, .invokevirtual 214, 156, 2, 12), (5, 1, .aload_n 0, 0, 0, 0), 
  (6, 5, .getfield 50, 11, 9, 0), (9, 1, .iload_n 1, 0, 0, 0), (10, 12, .invokevirtual 232, 137, 2, 11), (13, 1, .iload_n 2, 0, 0, 0), 
  (14, 3, .if_icmp .ne 11, 25, 0, 0), (17, 1, .aload_n 0, 0, 0, 0), (18, 0, .iconst 1, 0, 0, 0), (19, 12, .invokevirtual 244, 145, 2, 12), 
  (22, 0, .pop, 0, 0, 0), (23, 0, .iconst 0, 0, 0, 0), (24, 13, .ireturn, 0, 0, 0), (25, 1, .aload_n 0, 0, 0, 0), (26, 5, .getfield 39, 11, 6, 0), 
  (29, 12, .invokevirtual 247, 1, 1, 1), (32, 1, .aload_n 0, 0, 0, 0), (33, 5, .getfield 50, 11, 9, 0), (36, 1, .aload_n 0, 0, 0, 0), 
  (37, 5, .getfield 50, 11, 9, 0), (40, 12, .invokevirtual 161, 130, 1, 11), (43, 0, .iconst 1, 0, 0, 0), (44, 1, .iload_n 1, 0, 0, 0), 
  (45, 0, .ishl, 0, 0, 0), (46, 0, .ixor, 0, 0, 0), (47, 12, .invokevirtual 271, 139, 2, 11), (50, 0, .iconst 1, 0, 0, 0), (51, 13, .ireturn, 0, 0, 0)]
/-- TemperDowns.soothe(II)I -/
noncomputable def zk161 : List (Nat × zJ) := [
  (0, 1, .aload_n 0, 0, 0, 0), (1, 1, .iload_n 1, 0, 0, 0), (2, 12, .invokevirtual 187, 154, 2, 12), (5, 1, .iload_n 2, 0, 0, 0), 
  (6, 3, .ifCond .lt 9, 15, 0, 0), (9, 1, .iload_n 2, 0, 0, 0), (10, 0, .bipush 99, 0, 0, 0), (12, 3, .if_icmp .le 9, 21, 0, 0), 
  (15, 1, .aload_n 0, 0, 0, 0), (16, 0, .iconst 1, 0, 0, 0), (17, 12, .invokevirtual 244, 145, 2, 12), (20, 13, .ireturn, 0, 0, 0), 
  (21, 1, .aload_n 0, 0, 0, 0), (22, 5, .getfield 39, 11, 6, 0), (25, 12, .invokevirtual 247, 1, 1, 1), (28, 1, .aload_n 0, 0, 0, 0), 
  (29, 5, .getfield 50, 11, 9, 0), (32, 1, .iload_n 1, 0, 0, 0), (33, 12, .invokevirtual 196, 118, 2, 11), (36, 22, .istore_n 3, 0, 0, 0), 
  (37, 1, .aload_n 0, 0, 0, 0), (38, 5, .getfield 50, 11, 9, 0), (41, 1, .iload_n 1, 0, 0, 0), (42, 1, .iload_n 2, 0, 0, 0), 
  (43, 12, .invokevirtual 274, 122, 3, 11), (46, 1, .iload_n 3, 0, 0, 0), (47, 13, .ireturn, 0, 0, 0)]
/-- TemperDowns.then(III)I -/
noncomputable def zk162 : List (Nat × zJ) := [
  (0, 1, .aload_n 0, 0, 0, 0), (1, 1, .iload_n 1, 0, 0, 0), (2, 12, .invokevirtual 214, 156, 2, 12), (5, 1, .aload_n 0, 0, 0, 0), 
  (6, 1, .iload_n 3, 0, 0, 0), (7, 0, .iconst 2, 0, 0, 0), (8, 12, .invokevirtual 280, 163, 3, 12), (11, 1, .aload_n 0, 0, 0, 0), 
  (12, 1, .iload_n 2, 0, 0, 0), (13, 0, .iconst 0, 0, 0, 0), (14, 12, .invokevirtual 283, 164, 3, 12), (17, 1, .aload_n 0, 0, 0, 0), 
  (18, 5, .getfield 67, 11, 11, 0), (21, 1, .iload_n 2, 0, 0, 0), (22, 12, .invokevirtual 286, 44, 2, 4), (25, 22, .astore 4, 0, 0, 0), 
  (27, 1, .iload_n 3, 0, 0, 0), (28, 3, .ifCond .ne 10, 38, 0, 0), (31, 1, .aload 4, 0, 0, 0), (33, 1, .iload_n 1, 0, 0, 0), 
  (34, 12, .invokevirtual 223, 128, 2, 11), (37, 13, .ireturn, 0, 0, 0), (38, 1, .iload_n 3, 0, 0, 0), (39, 0, .iconst 1, 0, 0, 0), 
  (40, 3, .if_icmp .ne 12, 52, 0, 0), (43, 1, .aload 4, 0, 0, 0), (45, 1, .iload_n 1, 0, 0, 0), (46, 12, .invokevirtual 226, 129, 2, 11), 
  (49, 3, .goto 9, 58, 0, 0), (52, 1, .aload 4, 0, 0, 0), (54, 1, .iload_n 1, 0, 0, 0), (55, 12, .invokevirtual 229, 138, 2, 11), 
  (58, 13, .ireturn, 0, 0, 0)]
/-- TemperDowns.needWhat(II)V -/
noncomputable def zk163 : List (Nat × zJ) := [
  (0, 1, .iload_n 1, 0, 0, 0), (1, 3, .ifCond .lt 8, 9, 0, 0), (4, 1, .iload_n 1, 0, 0, 0), (5, 1, .iload_n 2, 0, 0, 0), 
  (6, 3, .if_icmp .le 14, 20, 0, 0), (9, 14, .new 182, 0, 0, 0), (20, 13, .return_, 0, 0, 0)]
/-- TemperDowns.needDays(II)V -/
noncomputable def zk164 : List (Nat × zJ) := [
  (0, 1, .iload_n 1, 0, 0, 0), (1, 1, .iload_n 2, 0, 0, 0), (2, 3, .if_icmp .lt 9, 11, 0, 0), (5, 1, .iload_n 1, 0, 0, 0), (6, 0, .bipush 60, 0, 0, 0), 
  (8, 3, .if_icmp .le 14, 22, 0, 0), (11, 14, .new 110, 1, 0, 0), (22, 13, .return_, 0, 0, 0)]
/-- TemperDowns.mood(III)I -/
noncomputable def zk165 : List (Nat × zJ) := [
  (0, 1, .aload_n 0, 0, 0, 0), (1, 1, .iload_n 1, 0, 0, 0), (2, 12, .invokevirtual 187, 154, 2, 12), (5, 1, .aload_n 0, 0, 0, 0), 
  (6, 1, .iload_n 3, 0, 0, 0), (7, 0, .iconst 2, 0, 0, 0), (8, 12, .invokevirtual 280, 163, 3, 12), (11, 1, .aload_n 0, 0, 0, 0), 
  (12, 1, .iload_n 2, 0, 0, 0), (13, 0, .iconst 0, 0, 0, 0), (14, 12, .invokevirtual 283, 164, 3, 12), (17, 1, .aload_n 0, 0, 0, 0), 
  (18, 5, .getfield 67, 11, 11, 0), (21, 1, .iload_n 2, 0, 0, 0), (22, 12, .invokevirtual 286, 44, 2, 4), (25, 22, .astore 4, 0, 0, 0), 
  (27, 1, .iload_n 3, 0, 0, 0), (28, 3, .ifCond .ne 10, 38, 0, 0), (31, 1, .aload 4, 0, 0, 0), (33, 1, .iload_n 1, 0, 0, 0), 
  (34, 12, .invokevirtual 196, 118, 2, 11), (37, 13, .ireturn, 0, 0, 0), (38, 1, .iload_n 3, 0, 0, 0), (39, 0, .iconst 1, 0, 0, 0), 
  (40, 3, .if_icmp .ne 12, 52, 0, 0), (43, 1, .aload 4, 0, 0, 0), (45, 1, .iload_n 1, 0, 0, 0), (46, 12, .invokevirtual 199, 120, 2, 11), 
  (49, 3, .goto 9, 58, 0, 0), (52, 1, .aload 4, 0, 0, 0), (54, 1, .iload_n 1, 0, 0, 0), (55, 12, .invokevirtual 202, 121, 2, 11), 
  (58, 13, .ireturn, 0, 0, 0)]
/-- TemperDowns.off(I)I -/
noncomputable def zk166 : List (Nat × zJ) := [
  (0, 1, .aload_n 0, 0, 0, 0), (1, 1, .iload_n 1, 0, 0, 0), (2, 12, .invokevirtual 214, 156, 2, 12), (5, 1, .aload_n 0, 0, 0, 0), 
  (6, 5, .getfield 67, 11, 11, 0), (9, 0, .iconst 0, 0, 0, 0), (10, 0, .iconst 1, 0, 0, 0), (11, 1, .iload_n 1, 0, 0, 0), (12, 0, .ishl, 0, 0, 0), 
  (13, 12, .invokevirtual 290, 43, 3, 4), (16, 13, .ireturn, 0, 0, 0)]
/-- TemperDowns.later(II)I -/
noncomputable def zk167 : List (Nat × zJ) := [
  (0, 1, .aload_n 0, 0, 0, 0), (1, 1, .iload_n 2, 0, 0, 0), (2, 0, .iconst 3, 0, 0, 0), (3, 12, .invokevirtual 280, 163, 3, 12), 
  (6, 1, .aload_n 0, 0, 0, 0), (7, 1, .iload_n 1, 0, 0, 0), (8, 0, .iconst 0, 0, 0, 0), (9, 12, .invokevirtual 283, 164, 3, 12), 
  (12, 1, .iload_n 2, 0, 0, 0), (13, 3, .ifCond .ne 12, 25, 0, 0), (16, 1, .aload_n 0, 0, 0, 0), (17, 5, .getfield 67, 11, 11, 0), 
  (20, 1, .iload_n 1, 0, 0, 0), (21, 12, .invokevirtual 297, 45, 2, 4), (24, 13, .ireturn, 0, 0, 0), (25, 1, .aload_n 0, 0, 0, 0), 
  (26, 5, .getfield 67, 11, 11, 0), (29, 1, .iload_n 1, 0, 0, 0), (30, 12, .invokevirtual 286, 44, 2, 4), (33, 22, .astore_n 3, 0, 0, 0), 
  (34, 1, .iload_n 2, 0, 0, 0), (35, 0, .iconst 1, 0, 0, 0), (36, 3, .if_icmp .ne 12, 48, 0, 0), (39, 1, .aload_n 0, 0, 0, 0), 
  (40, 5, .getfield 58, 11, 10, 0), (43, 1, .aload_n 3, 0, 0, 0), (44, 12, .invokevirtual 164, 31, 2, 3), (47, 13, .ireturn, 0, 0, 0), 
  (48, 1, .iload_n 2, 0, 0, 0), (49, 0, .iconst 2, 0, 0, 0), (50, 3, .if_icmp .ne 14, 64, 0, 0), (53, 1, .aload_n 0, 0, 0, 0), 
  (54, 5, .getfield 58, 11, 10, 0), (57, 1, .aload_n 3, 0, 0, 0), (58, 12, .invokevirtual 157, 30, 2, 3), (61, 3, .goto 11, 72, 0, 0), 
  (64, 1, .aload_n 0, 0, 0, 0), (65, 5, .getfield 58, 11, 10, 0), (68, 1, .aload_n 3, 0, 0, 0), (69, 12, .invokevirtual 300, 37, 2, 3), 
  (72, 13, .ireturn, 0, 0, 0)]
/-- TemperDowns.toGuard(II)I -/
noncomputable def zk168 : List (Nat × zJ) := [
  (0, 1, .aload_n 0, 0, 0, 0), (1, 1, .iload_n 1, 0, 0, 0), (2, 12, .invokevirtual 214, 156, 2, 12), (5, 1, .aload_n 0, 0, 0, 0), 
  (6, 1, .iload_n 2, 0, 0, 0), (7, 12, .invokevirtual 214, 156, 2, 12), (10, 1, .iload_n 1, 0, 0, 0), (11, 1, .iload_n 2, 0, 0, 0), 
  (12, 3, .if_icmp .ne 7, 19, 0, 0), (15, 0, .iconst (-1), 0, 0, 0), (16, 3, .goto 12, 28, 0, 0), (19, 1, .aload_n 0, 0, 0, 0), 
  (20, 5, .getfield 74, 11, 12, 0), (23, 1, .iload_n 1, 0, 0, 0), (24, 1, .iload_n 2, 0, 0, 0), (25, 12, .invokevirtual 303, 65, 3, 7), 
  (28, 13, .ireturn, 0, 0, 0)]
/-- TemperDowns.fire(II)I -/
noncomputable def zk169 : List (Nat × zJ) := [
  (0, 1, .aload_n 0, 0, 0, 0), (1, 1, .iload_n 1, 0, 0, 0), (2, 12, .invokevirtual 214, 156, 2, 12), (5, 1, .aload_n 0, 0, 0, 0), 
  (6, 1, .iload_n 2, 0, 0, 0), (7, 0, .iconst 1, 0, 0, 0), (8, 12, .invokevirtual 280, 163, 3, 12), (11, 1, .aload_n 0, 0, 0, 0), 
  (12, 5, .getfield 74, 11, 12, 0), (15, 1, .iload_n 1, 0, 0, 0), (16, 12, .invokevirtual 306, 66, 2, 7), (19, 22, .istore_n 3, 0, 0, 0), 
  (20, 1, .iload_n 2, 0, 0, 0), (21, 3, .ifCond .ne 7, 28, 0, 0), (24, 1, .iload_n 3, 0, 0, 0), (25, 3, .goto 12, 37, 0, 0), 
  (28, 1, .aload_n 0, 0, 0, 0), (29, 5, .getfield 74, 11, 12, 0), (32, 1, .iload_n 1, 0, 0, 0), (33, 1, .iload_n 3, 0, 0, 0), 
  (34, 12, .invokevirtual 309, 67, 3, 7), (37, 13, .ireturn, 0, 0, 0)]
/-- TemperDowns.pram(III)I -/
noncomputable def zk170 : List (Nat × zJ) := [
  (0, 1, .aload_n 0, 0, 0, 0), (1, 1, .iload_n 1, 0, 0, 0), (2, 12, .invokevirtual 264, 159, 2, 12), (5, 1, .aload_n 0, 0, 0, 0), 
  (6, 1, .iload_n 2, 0, 0, 0), (7, 12, .invokevirtual 264, 159, 2, 12), (10, 1, .aload_n 0, 0, 0, 0), (11, 1, .iload_n 3, 0, 0, 0), 
  (12, 0, .iconst 1, 0, 0, 0), (13, 12, .invokevirtual 280, 163, 3, 12), (16, 1, .iload_n 3, 0, 0, 0), (17, 3, .ifCond .ne 15, 32, 0, 0), 
  (20, 1, .aload_n 0, 0, 0, 0), (21, 5, .getfield 74, 11, 12, 0), (24, 1, .iload_n 1, 0, 0, 0), (25, 1, .iload_n 2, 0, 0, 0), 
  (26, 12, .invokevirtual 312, 68, 3, 7), (29, 3, .goto 12, 41, 0, 0), (32, 1, .aload_n 0, 0, 0, 0), (33, 5, .getfield 74, 11, 12, 0), 
  (36, 1, .iload_n 1, 0, 0, 0), (37, 1, .iload_n 2, 0, 0, 0), (38, 12, .invokevirtual 315, 71, 3, 7), (41, 13, .ireturn, 0, 0, 0)]
/-- TemperDowns.putBy(I)I -/
noncomputable def zk171 : List (Nat × zJ) := [
  (0, 1, .aload_n 0, 0, 0, 0), (1, 1, .iload_n 1, 0, 0, 0), (2, 0, .iconst 1, 0, 0, 0), (3, 12, .invokevirtual 280, 163, 3, 12), 
  (6, 1, .aload_n 0, 0, 0, 0), (7, 5, .getfield 83, 11, 13, 0), (10, 12, .invokevirtual 318, 73, 1, 8), (13, 1, .iload_n 1, 0, 0, 0), 
  (14, 3, .ifCond .ne 13, 27, 0, 0), (17, 1, .aload_n 0, 0, 0, 0), (18, 5, .getfield 83, 11, 13, 0), (21, 5, .getfield 321, 7, 0, 0), 
  (24, 3, .goto 10, 34, 0, 0), (27, 1, .aload_n 0, 0, 0, 0), (28, 5, .getfield 83, 11, 13, 0), (31, 5, .getfield 324, 7, 1, 0), 
  (34, 13, .ireturn, 0, 0, 0)]
/-- TemperDowns.put(I)I -/
noncomputable def zk172 : List (Nat × zJ) := [
  (0, 1, .aload_n 0, 0, 0, 0), (1, 1, .iload_n 1, 0, 0, 0), (2, 12, .invokevirtual 187, 154, 2, 12), (5, 1, .aload_n 0, 0, 0, 0), 
  (6, 5, .getfield 83, 11, 13, 0), (9, 12, .invokevirtual 318, 73, 1, 8), (12, 1, .aload_n 0, 0, 0, 0), (13, 5, .getfield 83, 11, 13, 0), 
  (16, 5, .getfield 327, 7, 2, 0), (19, 1, .iload_n 1, 0, 0, 0), (20, 7, .iaload, 0, 0, 0), (21, 13, .ireturn, 0, 0, 0)]
/-- TemperDowns.see(IIZ)I -/
noncomputable def zk173 : List (Nat × zJ) := [
  (0, 1, .aload_n 0, 0, 0, 0), (1, 1, .iload_n 1, 0, 0, 0), (2, 12, .invokevirtual 214, 156, 2, 12), (5, 1, .iload_n 2, 0, 0, 0), 
  (6, 3, .ifCond .lt 21, 27, 0, 0), (9, 1, .iload_n 2, 0, 0, 0), (10, 0, .bipush 20, 0, 0, 0), (12, 3, .if_icmp .gt 15, 27, 0, 0), 
  (15, 1, .aload_n 0, 0, 0, 0), (16, 5, .getfield 39, 11, 6, 0), (19, 5, .getfield 179, 0, 3, 0), (22, 0, .bipush 8, 0, 0, 0), 
  (24, 3, .if_icmp .lt 9, 33, 0, 0), (27, 1, .aload_n 0, 0, 0, 0), (28, 0, .iconst 2, 0, 0, 0), (29, 12, .invokevirtual 244, 145, 2, 12), 
  (32, 13, .ireturn, 0, 0, 0), (33, 1, .aload_n 0, 0, 0, 0), (34, 5, .getfield 39, 11, 6, 0), (37, 1, .iload_n 1, 0, 0, 0), 
  (38, 1, .iload_n 2, 0, 0, 0), (39, 1, .iload_n 3, 0, 0, 0), (40, 12, .invokevirtual 330, 5, 4, 1), (43, 1, .aload_n 0, 0, 0, 0), 
  (44, 5, .getfield 39, 11, 6, 0), (47, 5, .getfield 179, 0, 3, 0), (50, 13, .ireturn, 0, 0, 0)]
/-- TemperDowns.milder(I)I -/
noncomputable def zk174 : List (Nat × zJ) := [
  (0, 1, .aload_n 0, 0, 0, 0), (1, 1, .iload_n 1, 0, 0, 0), (2, 0, .iconst 2, 0, 0, 0), (3, 12, .invokevirtual 280, 163, 3, 12), 
  (6, 1, .iload_n 1, 0, 0, 0), (7, 0, .iconst 2, 0, 0, 0), (8, 3, .if_icmp .ne 19, 27, 0, 0), (11, 1, .aload_n 0, 0, 0, 0), 
  (12, 5, .getfield 92, 11, 14, 0), (15, 12, .invokevirtual 334, 49, 1, 5), (18, 3, .ifCond .eq 7, 25, 0, 0), (21, 0, .iconst 1, 0, 0, 0), 
  (22, 3, .goto 4, 26, 0, 0), (25, 0, .iconst 0, 0, 0, 0), (26, 13, .ireturn, 0, 0, 0), (27, 1, .aload_n 0, 0, 0, 0), (28, 5, .getfield 92, 11, 14, 0), 
  (31, 0, .iconst 0, 0, 0, 0), (32, 12, .invokevirtual 338, 53, 2, 5), (35, 1, .iload_n 1, 0, 0, 0), (36, 3, .ifCond .ne 13, 49, 0, 0), 
  (39, 1, .aload_n 0, 0, 0, 0), (40, 5, .getfield 92, 11, 14, 0), (43, 5, .getfield 341, 4, 0, 0), (46, 3, .goto 10, 56, 0, 0), 
  (49, 1, .aload_n 0, 0, 0, 0), (50, 5, .getfield 92, 11, 14, 0), (53, 5, .getfield 342, 4, 1, 0), (56, 13, .ireturn, 0, 0, 0)]
/-- TemperDowns.look(I)I -/
noncomputable def zk175 : List (Nat × zJ) := [
  (0, 1, .aload_n 0, 0, 0, 0), (1, 1, .iload_n 1, 0, 0, 0), (2, 0, .iconst 1, 0, 0, 0), (3, 12, .invokevirtual 280, 163, 3, 12), 
  (6, 1, .aload_n 0, 0, 0, 0), (7, 5, .getfield 92, 11, 14, 0), (10, 0, .bipush 8, 0, 0, 0), (12, 12, .invokevirtual 338, 53, 2, 5), 
  (15, 1, .aload_n 0, 0, 0, 0), (16, 5, .getfield 92, 11, 14, 0), (19, 12, .invokevirtual 345, 55, 1, 5), (22, 22, .istore_n 2, 0, 0, 0), 
  (23, 1, .iload_n 1, 0, 0, 0), (24, 3, .ifCond .ne 5, 29, 0, 0), (27, 1, .iload_n 2, 0, 0, 0), (28, 13, .ireturn, 0, 0, 0), 
  (29, 1, .iload_n 2, 0, 0, 0), (30, 0, .iconst (-1), 0, 0, 0), (31, 3, .if_icmp .ne 7, 38, 0, 0), (34, 0, .iconst 0, 0, 0, 0), 
  (35, 3, .goto 11, 46, 0, 0), (38, 1, .aload_n 0, 0, 0, 0), (39, 5, .getfield 92, 11, 14, 0), (42, 1, .iload_n 2, 0, 0, 0), 
  (43, 12, .invokevirtual 348, 56, 2, 5), (46, 13, .ireturn, 0, 0, 0)]
/-- TemperDowns.boys(III)I -/
noncomputable def zk176 : List (Nat × zJ) := [
  (0, 1, .aload_n 0, 0, 0, 0), (1, 1, .iload_n 1, 0, 0, 0), (2, 12, .invokevirtual 214, 156, 2, 12), (5, 1, .iload_n 2, 0, 0, 0), 
  (6, 0, .iconst 1, 0, 0, 0), (7, 3, .if_icmp .lt 18, 25, 0, 0), (10, 1, .iload_n 2, 0, 0, 0), (11, 0, .iconst 5, 0, 0, 0), 
  (12, 3, .if_icmp .gt 13, 25, 0, 0), (15, 1, .iload_n 3, 0, 0, 0), (16, 3, .ifCond .lt 9, 25, 0, 0), (19, 1, .iload_n 3, 0, 0, 0), 
  (20, 0, .bipush 10, 0, 0, 0), (22, 3, .if_icmp .le 14, 36, 0, 0), (25, 14, .new 110, 1, 0, 0), (36, 1, .aload_n 0, 0, 0, 0), 
  (37, 5, .getfield 99, 11, 15, 0), (40, 1, .iload_n 1, 0, 0, 0), (41, 1, .iload_n 2, 0, 0, 0), (42, 1, .iload_n 3, 0, 0, 0), 
  (43, 12, .invokevirtual 353, 7, 4, 2), (46, 13, .ireturn, 0, 0, 0)]
/-- TemperDowns.game(III)I -/
noncomputable def zk177 : List (Nat × zJ) := [
  (0, 1, .aload_n 0, 0, 0, 0), (1, 1, .iload_n 1, 0, 0, 0), (2, 12, .invokevirtual 187, 154, 2, 12), (5, 1, .aload_n 0, 0, 0, 0), 
  (6, 1, .iload_n 2, 0, 0, 0), (7, 12, .invokevirtual 187, 154, 2, 12), (10, 1, .aload_n 0, 0, 0, 0), (11, 1, .iload_n 3, 0, 0, 0), 
  (12, 0, .iconst 1, 0, 0, 0), (13, 12, .invokevirtual 280, 163, 3, 12), (16, 1, .iload_n 1, 0, 0, 0), (17, 1, .iload_n 2, 0, 0, 0), 
  (18, 3, .if_icmp .ne 14, 32, 0, 0), (21, 14, .new 110, 1, 0, 0), (32, 1, .aload_n 0, 0, 0, 0), (33, 5, .getfield 50, 11, 9, 0), 
  (36, 1, .iload_n 1, 0, 0, 0), (37, 12, .invokevirtual 196, 118, 2, 11), (40, 3, .ifCond .eq 14, 54, 0, 0), (43, 1, .aload_n 0, 0, 0, 0), 
  (44, 5, .getfield 50, 11, 9, 0), (47, 1, .iload_n 2, 0, 0, 0), (48, 12, .invokevirtual 196, 118, 2, 11), (51, 3, .ifCond .ne 5, 56, 0, 0), 
  (54, 0, .iconst (-1), 0, 0, 0), (55, 13, .ireturn, 0, 0, 0), (56, 1, .aload_n 0, 0, 0, 0), (57, 5, .getfield 99, 11, 15, 0), 
  (60, 1, .iload_n 1, 0, 0, 0), (61, 1, .iload_n 2, 0, 0, 0), (62, 12, .invokevirtual 359, 8, 3, 2), (65, 1, .iload_n 3, 0, 0, 0), 
  (66, 3, .ifCond .ne 13, 79, 0, 0), (69, 1, .aload_n 0, 0, 0, 0), (70, 5, .getfield 99, 11, 15, 0), (73, 12, .invokevirtual 362, 11, 1, 2), 
  (76, 3, .goto 10, 86, 0, 0), (79, 1, .aload_n 0, 0, 0, 0), (80, 5, .getfield 99, 11, 15, 0), (83, 12, .invokevirtual 365, 13, 1, 2), 
  (86, 13, .ireturn, 0, 0, 0)]
/-- TemperDowns.years(III)I -/
noncomputable def zk178 : List (Nat × zJ) := [
  (0, 1, .aload_n 0, 0, 0, 0), (1, 1, .iload_n 3, 0, 0, 0), (2, 0, .iconst 2, 0, 0, 0), (3, 12, .invokevirtual 280, 163, 3, 12), 
  (6, 1, .aload_n 0, 0, 0, 0), (7, 1, .iload_n 2, 0, 0, 0), (8, 0, .iconst 0, 0, 0, 0), (9, 12, .invokevirtual 283, 164, 3, 12), 
  (12, 1, .aload_n 0, 0, 0, 0), (13, 5, .getfield 99, 11, 15, 0), (16, 1, .iload_n 1, 0, 0, 0), (17, 1, .iload_n 2, 0, 0, 0), 
  (18, 12, .invokevirtual 368, 14, 3, 2), (21, 1, .iload_n 3, 0, 0, 0), (22, 3, .ifCond .ne 11, 33, 0, 0), (25, 1, .aload_n 0, 0, 0, 0), 
  (26, 5, .getfield 99, 11, 15, 0), (29, 5, .getfield 371, 1, 0, 0), (32, 13, .ireturn, 0, 0, 0), (33, 1, .iload_n 3, 0, 0, 0), 
  (34, 0, .iconst 1, 0, 0, 0), (35, 3, .if_icmp .ne 13, 48, 0, 0), (38, 1, .aload_n 0, 0, 0, 0), (39, 5, .getfield 99, 11, 15, 0), 
  (42, 5, .getfield 374, 1, 1, 0), (45, 3, .goto 10, 55, 0, 0), (48, 1, .aload_n 0, 0, 0, 0), (49, 5, .getfield 99, 11, 15, 0), 
  (52, 5, .getfield 377, 1, 2, 0), (55, 13, .ireturn, 0, 0, 0)]
/-- TemperDowns.cell(II)I -/
noncomputable def zk179 : List (Nat × zJ) := [
  (0, 1, .aload_n 0, 0, 0, 0), (1, 1, .iload_n 1, 0, 0, 0), (2, 12, .invokevirtual 264, 159, 2, 12), (5, 1, .aload_n 0, 0, 0, 0), 
  (6, 1, .iload_n 2, 0, 0, 0), (7, 0, .iconst 1, 0, 0, 0), (8, 12, .invokevirtual 280, 163, 3, 12), (11, 1, .iload_n 2, 0, 0, 0), 
  (12, 3, .ifCond .ne 18, 30, 0, 0), (15, 1, .aload_n 0, 0, 0, 0), (16, 5, .getfield 58, 11, 10, 0), (19, 1, .aload_n 0, 0, 0, 0), 
  (20, 5, .getfield 50, 11, 9, 0), (23, 1, .iload_n 1, 0, 0, 0), (24, 12, .invokevirtual 380, 39, 3, 3), (27, 3, .goto 15, 42, 0, 0), 
  (30, 1, .aload_n 0, 0, 0, 0), (31, 5, .getfield 58, 11, 10, 0), (34, 1, .aload_n 0, 0, 0, 0), (35, 5, .getfield 50, 11, 9, 0), 
  (38, 1, .iload_n 1, 0, 0, 0), (39, 12, .invokevirtual 383, 40, 3, 3), (42, 13, .ireturn, 0, 0, 0)]
/-- TemperDowns.when(II)I -/
noncomputable def zk180 : List (Nat × zJ) := [
  (0, 1, .aload_n 0, 0, 0, 0), (1, 1, .iload_n 1, 0, 0, 0), (2, 12, .invokevirtual 187, 154, 2, 12), (5, 1, .aload_n 0, 0, 0, 0), 
  (6, 1, .iload_n 2, 0, 0, 0), (7, 0, .iconst 1, 0, 0, 0), (8, 12, .invokevirtual 280, 163, 3, 12), (11, 1, .aload_n 0, 0, 0, 0), 
  (12, 5, .getfield 67, 11, 11, 0), (15, 1, .iload_n 2, 0, 0, 0), (16, 3, .ifCond .ne 7, 23, 0, 0), (19, 0, .iconst 1, 0, 0, 0), 
  (20, 3, .goto 4, 24, 0, 0), (23, 0, .iconst 2, 0, 0, 0), (24, 0, .iconst 1, 0, 0, 0), (25, 1, .iload_n 1, 0, 0, 0), (26, 0, .ishl, 0, 0, 0), 
  (27, 12, .invokevirtual 290, 43, 3, 4), (30, 13, .ireturn, 0, 0, 0)]
/-- TemperDowns.ahead(II)I -/
noncomputable def zk181 : List (Nat × zJ) := [
  (0, 1, .aload_n 0, 0, 0, 0), (1, 1, .iload_n 2, 0, 0, 0), (2, 0, .iconst 1, 0, 0, 0), (3, 12, .invokevirtual 280, 163, 3, 12), 
  (6, 1, .aload_n 0, 0, 0, 0), (7, 1, .iload_n 1, 0, 0, 0), (8, 1, .iload_n 2, 0, 0, 0), (9, 3, .ifCond .ne 7, 16, 0, 0), (12, 0, .iconst 1, 0, 0, 0), 
  (13, 3, .goto 4, 17, 0, 0), (16, 0, .iconst 0, 0, 0, 0), (17, 12, .invokevirtual 283, 164, 3, 12), (20, 1, .iload_n 2, 0, 0, 0), 
  (21, 3, .ifCond .ne 14, 35, 0, 0), (24, 1, .aload_n 0, 0, 0, 0), (25, 5, .getfield 67, 11, 11, 0), (28, 1, .iload_n 1, 0, 0, 0), 
  (29, 12, .invokevirtual 386, 46, 2, 4), (32, 3, .goto 19, 51, 0, 0), (35, 1, .aload_n 0, 0, 0, 0), (36, 5, .getfield 58, 11, 10, 0), 
  (39, 1, .aload_n 0, 0, 0, 0), (40, 5, .getfield 67, 11, 11, 0), (43, 1, .iload_n 1, 0, 0, 0), (44, 12, .invokevirtual 286, 44, 2, 4), 
  (47, 0, .iconst 0, 0, 0, 0), (48, 12, .invokevirtual 389, 38, 3, 3), (51, 13, .ireturn, 0, 0, 0)]
/-- TemperDowns.stays(II)I -/
noncomputable def zk182 : List (Nat × zJ) := [
  (0, 1, .aload_n 0, 0, 0, 0), (1, 1, .iload_n 1, 0, 0, 0), (2, 12, .invokevirtual 187, 154, 2, 12), (5, 1, .aload_n 0, 0, 0, 0), 
  (6, 1, .iload_n 2, 0, 0, 0), (7, 0, .iconst 1, 0, 0, 0), (8, 12, .invokevirtual 283, 164, 3, 12), (11, 1, .aload_n 0, 0, 0, 0), 
  (12, 5, .getfield 67, 11, 11, 0), (15, 1, .iload_n 1, 0, 0, 0), (16, 1, .iload_n 2, 0, 0, 0), (17, 12, .invokevirtual 392, 47, 3, 4), 
  (20, 13, .ireturn, 0, 0, 0)]
/-- TemperDownsModel.<init>()V -/
noncomputable def zk183 : List (Nat × zJ) := [
  (0, 1, .aload_n 0, 0, 0, 0), (1, 19, .invokespecial 1, 0, 0, 0), (4, 1, .aload_n 0, 0, 0, 0), (5, 0, .iconst 4, 0, 0, 0), 
  (6, 6, .putfield 7, 12, 1, 0), (9, 1, .aload_n 0, 0, 0, 0), (10, 0, .iconst 4, 0, 0, 0), (11, 6, .putfield 13, 12, 2, 0), 
  (14, 1, .aload_n 0, 0, 0, 0), (15, 0, .iconst (-1), 0, 0, 0), (16, 6, .putfield 16, 12, 5, 0), (19, 1, .aload_n 0, 0, 0, 0), 
  (20, 0, .iconst (-1), 0, 0, 0), (21, 6, .putfield 19, 12, 6, 0), (24, 1, .aload_n 0, 0, 0, 0), (25, 0, .bipush 7, 0, 0, 0), 
  (27, 11, .newarray .int, 0, 0, 0), (29, 6, .putfield 22, 12, 7, 3), (32, 1, .aload_n 0, 0, 0, 0), (33, 0, .bipush 10, 0, 0, 0), 
  (35, 11, .newarray .int, 0, 0, 0), (37, 6, .putfield 26, 12, 8, 3), (40, 1, .aload_n 0, 0, 0, 0), (41, 0, .sipush 1400, 0, 0, 0), 
  (44, 11, .newarray .int, 0, 0, 0), (46, 6, .putfield 29, 12, 9, 3), (49, 1, .aload_n 0, 0, 0, 0), (50, 0, .sipush 700, 0, 0, 0), 
  (53, 11, .newarray .int, 0, 0, 0), (55, 6, .putfield 32, 12, 10, 3), (58, 1, .aload_n 0, 0, 0, 0), (59, 0, .iconst (-1), 0, 0, 0), 
  (60, 6, .putfield 35, 12, 13, 0), (63, 1, .aload_n 0, 0, 0, 0), (64, 0, .iconst 3, 0, 0, 0), (65, 11, .newarray .int, 0, 0, 0), 
  (67, 6, .putfield 38, 12, 14, 3), (70, 1, .aload_n 0, 0, 0, 0), (71, 0, .bipush 7, 0, 0, 0), (73, 11, .newarray .int, 0, 0, 0), 
  (75, 6, .putfield 41, 12, 34, 3), (78, 1, .aload_n 0, 0, 0, 0), (79, 0, .bipush 10, 0, 0, 0), (81, 11, .newarray .int, 0, 0, 0), 
  (83, 6, .putfield 44, 12, 35, 3), (86, 1, .aload_n 0, 0, 0, 0), (87, 0, .bipush 79, 0, 0, 0), (89, 11, .newarray .int, 0, 0, 0), 
  (91, 6, .putfield 47, 12, 36, 3), (94, 1, .aload_n 0, 0, 0, 0), (95, 0, .sipush 1400, 0, 0, 0), (98, 11, .newarray .int, 0, 0, 0), 
  (100, 6, .putfield 50, 12, 37, 3), (103, 1, .aload_n 0, 0, 0, 0), (104, 0, .sipush 950, 0, 0, 0), (107, 11, .newarray .int, 0, 0, 0), 
  (109, 6, .putfield 53, 12, 38, 3), (112, 1, .aload_n 0, 0, 0, 0), (113, 0, .bipush 9, 0, 0, 0), (115, 11, .newarray .boolean, 0, 0, 0), 
  (117, 6, .putfield 56, 12, 39, 3), (120, 1, .aload_n 0, 0, 0, 0), (121, 0, .sipush 158, 0, 0, 0), (124, 11, .newarray .int, 0, 0, 0), 
  (126, 6, .putfield 60, 12, 40, 3), (129, 1, .aload_n 0, 0, 0, 0), (130, 0, .sipush 3160, 0, 0, 0), (133, 11, .newarray .int, 0, 0, 0), 
  (135, 6, .putfield 63, 12, 41, 3), (138, 1, .aload_n 0, 0, 0, 0), (139, 0, .bipush 9, 0, 0, 0), (141, 11, .newarray .int, 0, 0, 0), 
  (143, 6, .putfield 66, 12, 43, 3), (146, 1, .aload_n 0, 0, 0, 0), (147, 0, .sipush 950, 0, 0, 0), (150, 11, .newarray .int, 0, 0, 0), 
  (152, 6, .putfield 69, 12, 44, 3), (155, 1, .aload_n 0, 0, 0, 0), (156, 0, .bipush 36, 0, 0, 0), (158, 11, .newarray .int, 0, 0, 0), 
  (160, 6, .putfield 72, 12, 49, 3), (163, 1, .aload_n 0, 0, 0, 0), (164, 0, .bipush 36, 0, 0, 0), (166, 11, .newarray .int, 0, 0, 0), 
  (168, 6, .putfield 75, 12, 50, 3), (171, 1, .aload_n 0, 0, 0, 0), (172, 0, .sipush 8192, 0, 0, 0), (175, 11, .newarray .int, 0, 0, 0), 
  (177, 6, .putfield 78, 12, 51, 3), (180, 1, .aload_n 0, 0, 0, 0), (181, 0, .bipush 7, 0, 0, 0), (183, 11, .newarray .int, 0, 0, 0), 
  (185, 6, .putfield 81, 12, 52, 3), (188, 1, .aload_n 0, 0, 0, 0), (189, 0, .bipush 24, 0, 0, 0), (191, 11, .newarray .int, 0, 0, 0), 
  (193, 6, .putfield 84, 12, 54, 3), (196, 1, .aload_n 0, 0, 0, 0), (197, 0, .bipush 10, 0, 0, 0), (199, 11, .newarray .int, 0, 0, 0), 
  (201, 6, .putfield 87, 12, 55, 3), (204, 1, .aload_n 0, 0, 0, 0), (205, 0, .sipush 700, 0, 0, 0), (208, 11, .newarray .int, 0, 0, 0), 
  (210, 6, .putfield 90, 12, 56, 3), (213, 1, .aload_n 0, 0, 0, 0), (214, 0, .bipush 79, 0, 0, 0), (216, 11, .newarray .int, 0, 0, 0), 
  (218, 6, .putfield 93, 12, 61, 3), (221, 1, .aload_n 0, 0, 0, 0), (222, 0, .sipush 3160, 0, 0, 0), (225, 11, .newarray .int, 0, 0, 0), 
  (227, 6, .putfield 96, 12, 62, 3), (230, 1, .aload_n 0, 0, 0, 0), (231, 0, .bipush 24, 0, 0, 0), (233, 11, .newarray .int, 0, 0, 0), 
  (235, 6, .putfield 99, 12, 63, 3), (238, 13, .return_, 0, 0, 0)]
/-- TemperDownsModel.thrown()I -/
noncomputable def zk184 : List (Nat × zJ) := [
  (0, 1, .aload_n 0, 0, 0, 0), (1, 5, .getfield 102, 12, 0, 0), (4, 13, .ireturn, 0, 0, 0)]
/-- TemperDownsModel.feed(IIIII)I -/
noncomputable def zk185 : List (Nat × zJ) := [
  (0, 1, .aload_n 0, 0, 0, 0), (1, 0, .iconst 0, 0, 0, 0), (2, 6, .putfield 102, 12, 0, 0), (5, 1, .aload_n 0, 0, 0, 0), 
  (6, 5, .getfield 105, 12, 11, 0), (9, 0, .bipush 20, 0, 0, 0), (11, 0, .iadd, 0, 0, 0), (12, 0, .sipush 700, 0, 0, 0), 
  (15, 3, .if_icmp .le 5, 20, 0, 0), (18, 0, .iconst (-1), 0, 0, 0), (19, 13, .ireturn, 0, 0, 0), (20, 1, .aload_n 0, 0, 0, 0), 
  (21, 1, .iload_n 1, 0, 0, 0), (22, 12, .invokevirtual 108, 186, 2, 13), (25, 1, .aload_n 0, 0, 0, 0), (26, 1, .iload_n 2, 0, 0, 0), 
  (27, 12, .invokevirtual 108, 186, 2, 13), (30, 1, .aload_n 0, 0, 0, 0), (31, 1, .iload_n 3, 0, 0, 0), (32, 12, .invokevirtual 108, 186, 2, 13), 
  (35, 1, .aload_n 0, 0, 0, 0), (36, 1, .iload 4, 0, 0, 0), (38, 12, .invokevirtual 108, 186, 2, 13), (41, 1, .aload_n 0, 0, 0, 0), 
  (42, 1, .iload 5, 0, 0, 0), (44, 12, .invokevirtual 108, 186, 2, 13), (47, 1, .aload_n 0, 0, 0, 0), (48, 5, .getfield 105, 12, 11, 0), 
  (51, 13, .ireturn, 0, 0, 0)]
/-- TemperDownsModel.lays(I)V -/
noncomputable def zk186 : List (Nat × zJ) := [
  (0, 0, .bipush 24, 0, 0, 0), (2, 22, .istore_n 2, 0, 0, 0), (3, 1, .iload_n 2, 0, 0, 0), (4, 3, .ifCond .lt 35, 39, 0, 0), 
  (7, 1, .aload_n 0, 0, 0, 0), (8, 5, .getfield 32, 12, 10, 0), (11, 1, .aload_n 0, 0, 0, 0), (12, 5, .getfield 105, 12, 11, 0), 
  (15, 1, .iload_n 1, 0, 0, 0), (16, 1, .iload_n 2, 0, 0, 0), (17, 0, .ishr, 0, 0, 0), (18, 0, .sipush 255, 0, 0, 0), (21, 0, .iand, 0, 0, 0), 
  (22, 8, .iastore, 0, 0, 0), (23, 1, .aload_n 0, 0, 0, 0), (24, 0, .dup, 0, 0, 0), (25, 5, .getfield 105, 12, 11, 0), (28, 0, .iconst 1, 0, 0, 0), 
  (29, 0, .iadd, 0, 0, 0), (30, 6, .putfield 105, 12, 11, 0), (33, 22, .iinc 2 (-8), 0, 0, 0), (36, 3, .goto (-33), 3, 0, 0), 
  (39, 13, .return_, 0, 0, 0)]
/-- TemperDownsModel.county(I)I -/
noncomputable def zk187 : List (Nat × zJ) := [
  (0, 1, .aload_n 0, 0, 0, 0), (1, 0, .iconst 0, 0, 0, 0), (2, 6, .putfield 102, 12, 0, 0), (5, 1, .aload_n 0, 0, 0, 0), (6, 1, .iload_n 1, 0, 0, 0), 
  (7, 3, .ifCond .lt 15, 22, 0, 0), (10, 1, .iload_n 1, 0, 0, 0), (11, 1, .aload_n 0, 0, 0, 0), (12, 5, .getfield 105, 12, 11, 0), 
  (15, 3, .if_icmp .gt 7, 22, 0, 0), (18, 0, .iconst 1, 0, 0, 0), (19, 3, .goto 4, 23, 0, 0), (22, 0, .iconst 0, 0, 0, 0), (23, 0, .iconst 1, 0, 0, 0), 
  (24, 12, .invokevirtual 266, 188, 3, 13), (27, 3, .ifCond .ne 5, 32, 0, 0), (30, 0, .iconst 0, 0, 0, 0), (31, 13, .ireturn, 0, 0, 0), 
  (32, 1, .aload_n 0, 0, 0, 0), (33, 0, .iconst 0, 0, 0, 0), (34, 6, .putfield 105, 12, 11, 0), (37, 1, .aload_n 0, 0, 0, 0), 
  (38, 0, .iconst (-1), 0, 0, 0), (39, 6, .putfield 35, 12, 13, 0), (42, 1, .aload_n 0, 0, 0, 0), (43, 0, .iconst 0, 0, 0, 0), 
  (44, 6, .putfield 158, 12, 12, 0), (47, 1, .aload_n 0, 0, 0, 0), (48, 1, .iload_n 1, 0, 0, 0), (49, 6, .putfield 112, 12, 15, 0), 
  (52, 1, .aload_n 0, 0, 0, 0), (53, 0, .iconst 0, 0, 0, 0), (54, 6, .putfield 115, 12, 16, 0), (57, 1, .aload_n 0, 0, 0, 0), 
  (58, 0, .iconst 4, 0, 0, 0), (59, 6, .putfield 171, 12, 23, 0), (62, 1, .aload_n 0, 0, 0, 0), (63, 0, .iconst 4, 0, 0, 0), 
  (64, 6, .putfield 174, 12, 24, 0), (67, 1, .aload_n 0, 0, 0, 0), (68, 0, .iconst 0, 0, 0, 0), (69, 6, .putfield 230, 12, 25, 0), 
  (72, 1, .aload_n 0, 0, 0, 0), (73, 0, .iconst 0, 0, 0, 0), (74, 6, .putfield 240, 12, 26, 0), (77, 1, .aload_n 0, 0, 0, 0), 
  (78, 0, .iconst (-1), 0, 0, 0), (79, 6, .putfield 253, 12, 27, 0), (82, 1, .aload_n 0, 0, 0, 0), (83, 0, .iconst (-1), 0, 0, 0), 
  (84, 6, .putfield 260, 12, 28, 0), (87, 0, .iconst 0, 0, 0, 0), (88, 22, .istore_n 2, 0, 0, 0), (89, 1, .iload_n 2, 0, 0, 0), 
  (90, 0, .bipush 79, 0, 0, 0), (92, 3, .if_icmp .ge 16, 108, 0, 0), (95, 1, .aload_n 0, 0, 0, 0), (96, 5, .getfield 47, 12, 36, 0), 
  (99, 1, .iload_n 2, 0, 0, 0), (100, 0, .iconst 0, 0, 0, 0), (101, 8, .iastore, 0, 0, 0), (102, 22, .iinc 2 1, 0, 0, 0), 
  (105, 3, .goto (-16), 89, 0, 0), (108, 1, .aload_n 0, 0, 0, 0), (109, 0, .iconst 0, 0, 0, 0), (110, 6, .putfield 177, 12, 29, 0), 
  (113, 1, .aload_n 0, 0, 0, 0), (114, 12, .invokevirtual 165, 189, 1, 13), (117, 1, .aload_n 0, 0, 0, 0), (118, 12, .invokevirtual 192, 193, 1, 13), 
  (121, 0, .bipush 9, 0, 0, 0), (123, 3, .if_icmp .ne 39, 162, 0, 0), (126, 1, .aload_n 0, 0, 0, 0), (127, 12, .invokevirtual 165, 189, 1, 13), 
  (130, 1, .aload_n 0, 0, 0, 0), (131, 1, .aload_n 0, 0, 0, 0), (132, 0, .iconst 1, 0, 0, 0), (133, 0, .bipush 6, 0, 0, 0), 
  (135, 12, .invokevirtual 236, 196, 3, 13), (138, 6, .putfield 171, 12, 23, 0), (141, 1, .aload_n 0, 0, 0, 0), (142, 1, .aload_n 0, 0, 0, 0), 
  (143, 0, .iconst 1, 0, 0, 0), (144, 0, .bipush 6, 0, 0, 0), (146, 12, .invokevirtual 236, 196, 3, 13), (149, 6, .putfield 174, 12, 24, 0), 
  (152, 1, .aload_n 0, 0, 0, 0), (153, 1, .aload_n 0, 0, 0, 0), (154, 0, .bipush 59, 0, 0, 0), (156, 12, .invokevirtual 205, 199, 2, 13), 
  (159, 12, .invokevirtual 263, 200, 2, 13), (162, 1, .aload_n 0, 0, 0, 0), (163, 12, .invokevirtual 161, 197, 1, 13), 
  (166, 3, .ifCond .eq 17, 183, 0, 0), (169, 1, .aload_n 0, 0, 0, 0), (170, 5, .getfield 135, 12, 17, 0), (173, 3, .ifCond .eq 10, 183, 0, 0), 
  (176, 1, .aload_n 0, 0, 0, 0), (177, 12, .invokevirtual 270, 201, 1, 13), (180, 3, .goto (-18), 162, 0, 0), (183, 1, .aload_n 0, 0, 0, 0), 
  (184, 12, .invokevirtual 161, 197, 1, 13), (187, 3, .ifCond .ne 18, 205, 0, 0), (190, 1, .aload_n 0, 0, 0, 0), (191, 5, .getfield 38, 12, 14, 0), 
  (194, 0, .iconst 0, 0, 0, 0), (195, 0, .dup2, 0, 0, 0), (196, 7, .iaload, 0, 0, 0), (197, 0, .iconst 1, 0, 0, 0), (198, 0, .iadd, 0, 0, 0), 
  (199, 8, .iastore, 0, 0, 0), (200, 1, .aload_n 0, 0, 0, 0), (201, 5, .getfield 158, 12, 12, 0), (204, 13, .ireturn, 0, 0, 0), 
  (205, 1, .aload_n 0, 0, 0, 0), (206, 1, .aload_n 0, 0, 0, 0), (207, 5, .getfield 171, 12, 23, 0), (210, 6, .putfield 7, 12, 1, 0), 
  (213, 1, .aload_n 0, 0, 0, 0), (214, 1, .aload_n 0, 0, 0, 0), (215, 5, .getfield 174, 12, 24, 0), (218, 6, .putfield 13, 12, 2, 0), 
  (221, 1, .aload_n 0, 0, 0, 0), (222, 1, .aload_n 0, 0, 0, 0), (223, 5, .getfield 230, 12, 25, 0), (226, 6, .putfield 273, 12, 3, 0), 
  (229, 1, .aload_n 0, 0, 0, 0), (230, 1, .aload_n 0, 0, 0, 0), (231, 5, .getfield 240, 12, 26, 0), (234, 6, .putfield 276, 12, 4, 0), 
  (237, 1, .aload_n 0, 0, 0, 0), (238, 1, .aload_n 0, 0, 0, 0), (239, 5, .getfield 253, 12, 27, 0), (242, 6, .putfield 16, 12, 5, 0), 
  (245, 1, .aload_n 0, 0, 0, 0), (246, 1, .aload_n 0, 0, 0, 0), (247, 5, .getfield 260, 12, 28, 0), (250, 6, .putfield 19, 12, 6, 0), 
  (253, 1, .aload_n 0, 0, 0, 0), (254, 1, .aload_n 0, 0, 0, 0), (255, 5, .getfield 41, 12, 34, 0), (258, 1, .aload_n 0, 0, 0, 0), 
  (259, 5, .getfield 22, 12, 7, 0), (262, 12, .invokevirtual 279, 217, 3, 13), (265, 1, .aload_n 0, 0, 0, 0), (266, 1, .aload_n 0, 0, 0, 0), 
  (267, 5, .getfield 44, 12, 35, 0), (270, 1, .aload_n 0, 0, 0, 0), (271, 5, .getfield 26, 12, 8, 0), (274, 12, .invokevirtual 279, 217, 3, 13), 
  (277, 1, .aload_n 0, 0, 0, 0), (278, 1, .aload_n 0, 0, 0, 0), (279, 5, .getfield 50, 12, 37, 0), (282, 1, .aload_n 0, 0, 0, 0), 
  (283, 5, .getfield 29, 12, 9, 0), (286, 12, .invokevirtual 279, 217, 3, 13), (289, 0, .iconst 0, 0, 0, 0), (290, 22, .istore_n 2, 0, 0, 0), 
  (291, 1, .iload_n 2, 0, 0, 0), (292, 0, .bipush 79, 0, 0, 0), (294, 3, .if_icmp .ge 21, 315, 0, 0), (297, 1, .aload_n 0, 0, 0, 0), 
  (298, 5, .getfield 60, 12, 40, 0), (301, 1, .iload_n 2, 0, 0, 0), (302, 1, .aload_n 0, 0, 0, 0), (303, 5, .getfield 47, 12, 36, 0), 
  (306, 1, .iload_n 2, 0, 0, 0), (307, 7, .iaload, 0, 0, 0), (308, 8, .iastore, 0, 0, 0), (309, 22, .iinc 2 1, 0, 0, 0), 
  (312, 3, .goto (-21), 291, 0, 0), (315, 1, .aload_n 0, 0, 0, 0), (316, 0, .iconst 0, 0, 0, 0), (317, 6, .putfield 283, 12, 42, 0), 
  (320, 1, .aload_n 0, 0, 0, 0), (321, 0, .iconst 0, 0, 0, 0), (322, 6, .putfield 286, 12, 53, 0), (325, 1, .aload_n 0, 0, 0, 0), 
  (326, 0, .iconst 0, 0, 0, 0), (327, 6, .putfield 289, 12, 58, 2), (330, 0, .iconst 0, 0, 0, 0), (331, 13, .ireturn, 0, 0, 0)]
/-- TemperDownsModel.right(ZI)Z -/
noncomputable def zk188 : List (Nat × zJ) := [
  (0, 1, .aload_n 0, 0, 0, 0), (1, 5, .getfield 102, 12, 0, 0), (4, 3, .ifCond .ne 12, 16, 0, 0), (7, 1, .iload_n 1, 0, 0, 0), 
  (8, 3, .ifCond .ne 8, 16, 0, 0), (11, 1, .aload_n 0, 0, 0, 0), (12, 1, .iload_n 2, 0, 0, 0), (13, 6, .putfield 102, 12, 0, 0), 
  (16, 1, .aload_n 0, 0, 0, 0), (17, 5, .getfield 102, 12, 0, 0), (20, 3, .ifCond .ne 7, 27, 0, 0), (23, 0, .iconst 1, 0, 0, 0), 
  (24, 3, .goto 4, 28, 0, 0), (27, 0, .iconst 0, 0, 0, 0), (28, 13, .ireturn, 0, 0, 0)]
/-- TemperDownsModel.goes()V -/
noncomputable def zk189 : List (Nat × zJ) := [
  (0, 1, .aload_n 0, 0, 0, 0), (1, 5, .getfield 115, 12, 16, 0), (4, 1, .aload_n 0, 0, 0, 0), (5, 5, .getfield 112, 12, 15, 0), 
  (8, 3, .if_icmp .ge 42, 50, 0, 0), (11, 1, .aload_n 0, 0, 0, 0), (12, 1, .aload_n 0, 0, 0, 0), (13, 5, .getfield 115, 12, 16, 0), 
  (16, 12, .invokevirtual 118, 190, 2, 13), (19, 0, .bipush 32, 0, 0, 0), (21, 3, .if_icmp .eq 16, 37, 0, 0), (24, 1, .aload_n 0, 0, 0, 0), 
  (25, 1, .aload_n 0, 0, 0, 0), (26, 5, .getfield 115, 12, 16, 0), (29, 12, .invokevirtual 118, 190, 2, 13), (32, 0, .bipush 10, 0, 0, 0), 
  (34, 3, .if_icmp .ne 16, 50, 0, 0), (37, 1, .aload_n 0, 0, 0, 0), (38, 0, .dup, 0, 0, 0), (39, 5, .getfield 115, 12, 16, 0), 
  (42, 0, .iconst 1, 0, 0, 0), (43, 0, .iadd, 0, 0, 0), (44, 6, .putfield 115, 12, 16, 0), (47, 3, .goto (-47), 0, 0, 0), (50, 1, .aload_n 0, 0, 0, 0), 
  (51, 1, .aload_n 0, 0, 0, 0), (52, 5, .getfield 115, 12, 16, 0), (55, 6, .putfield 122, 12, 18, 0), (58, 1, .aload_n 0, 0, 0, 0), 
  (59, 0, .lconst 0, 0, 0, 0), (60, 6, .putfield 125, 12, 22, 1), (63, 1, .aload_n 0, 0, 0, 0), (64, 0, .iconst 0, 0, 0, 0), 
  (65, 6, .putfield 129, 12, 20, 0), (68, 1, .aload_n 0, 0, 0, 0), (69, 1, .aload_n 0, 0, 0, 0), (70, 5, .getfield 115, 12, 16, 0), 
  (73, 12, .invokevirtual 118, 190, 2, 13), (76, 22, .istore_n 1, 0, 0, 0), (77, 1, .aload_n 0, 0, 0, 0), (78, 1, .iload_n 1, 0, 0, 0), 
  (79, 6, .putfield 132, 12, 21, 0), (82, 1, .aload_n 0, 0, 0, 0), (83, 5, .getfield 115, 12, 16, 0), (86, 1, .aload_n 0, 0, 0, 0), 
  (87, 5, .getfield 112, 12, 15, 0), (90, 3, .if_icmp .lt 11, 101, 0, 0), (93, 1, .aload_n 0, 0, 0, 0), (94, 0, .iconst 0, 0, 0, 0), 
  (95, 6, .putfield 135, 12, 17, 0), (98, 3, .goto 233, 331, 0, 0), (101, 1, .iload_n 1, 0, 0, 0), (102, 12, .invokestatic 138, 191, 1, 0), 
  (105, 3, .ifCond .eq 75, 180, 0, 0), (108, 1, .aload_n 0, 0, 0, 0), (109, 1, .aload_n 0, 0, 0, 0), (110, 5, .getfield 115, 12, 16, 0), 
  (113, 12, .invokevirtual 118, 190, 2, 13), (116, 12, .invokestatic 138, 191, 1, 0), (119, 3, .ifCond .eq 53, 172, 0, 0), 
  (122, 1, .aload_n 0, 0, 0, 0), (123, 5, .getfield 115, 12, 16, 0), (126, 1, .aload_n 0, 0, 0, 0), (127, 5, .getfield 122, 12, 18, 0), 
  (130, 0, .isub, 0, 0, 0), (131, 0, .bipush 6, 0, 0, 0), (133, 3, .if_icmp .ge 26, 159, 0, 0), (136, 1, .aload_n 0, 0, 0, 0), 
  (137, 1, .aload_n 0, 0, 0, 0), (138, 5, .getfield 125, 12, 22, 0), (141, 0, .iconst 5, 0, 0, 0), (142, 0, .lshl, 0, 0, 0), 
  (143, 1, .aload_n 0, 0, 0, 0), (144, 1, .aload_n 0, 0, 0, 0), (145, 5, .getfield 115, 12, 16, 0), (148, 12, .invokevirtual 118, 190, 2, 13), 
  (151, 0, .bipush 96, 0, 0, 0), (153, 0, .isub, 0, 0, 0), (154, 0, .i2l, 0, 0, 0), (155, 0, .lor, 0, 0, 0), (156, 6, .putfield 125, 12, 22, 1), 
  (159, 1, .aload_n 0, 0, 0, 0), (160, 0, .dup, 0, 0, 0), (161, 5, .getfield 115, 12, 16, 0), (164, 0, .iconst 1, 0, 0, 0), (165, 0, .iadd, 0, 0, 0), 
  (166, 6, .putfield 115, 12, 16, 0), (169, 3, .goto (-61), 108, 0, 0), (172, 1, .aload_n 0, 0, 0, 0), (173, 0, .iconst 1, 0, 0, 0), 
  (174, 6, .putfield 135, 12, 17, 0), (177, 3, .goto 154, 331, 0, 0), (180, 1, .iload_n 1, 0, 0, 0), (181, 12, .invokestatic 142, 192, 1, 0), 
  (184, 3, .ifCond .eq 74, 258, 0, 0), (187, 1, .aload_n 0, 0, 0, 0), (188, 1, .aload_n 0, 0, 0, 0), (189, 5, .getfield 115, 12, 16, 0), 
  (192, 12, .invokevirtual 118, 190, 2, 13), (195, 12, .invokestatic 142, 192, 1, 0), (198, 3, .ifCond .eq 52, 250, 0, 0), 
  (201, 1, .aload_n 0, 0, 0, 0), (202, 5, .getfield 115, 12, 16, 0), (205, 1, .aload_n 0, 0, 0, 0), (206, 5, .getfield 122, 12, 18, 0), 
  (209, 0, .isub, 0, 0, 0), (210, 0, .iconst 4, 0, 0, 0), (211, 3, .if_icmp .ge 26, 237, 0, 0), (214, 1, .aload_n 0, 0, 0, 0), 
  (215, 0, .bipush 10, 0, 0, 0), (217, 1, .aload_n 0, 0, 0, 0), (218, 5, .getfield 129, 12, 20, 0), (221, 0, .imul, 0, 0, 0), 
  (222, 1, .aload_n 0, 0, 0, 0), (223, 1, .aload_n 0, 0, 0, 0), (224, 5, .getfield 115, 12, 16, 0), (227, 12, .invokevirtual 118, 190, 2, 13), 
  (230, 0, .iadd, 0, 0, 0), (231, 0, .bipush 48, 0, 0, 0), (233, 0, .isub, 0, 0, 0), (234, 6, .putfield 129, 12, 20, 0), (237, 1, .aload_n 0, 0, 0, 0), 
  (238, 0, .dup, 0, 0, 0), (239, 5, .getfield 115, 12, 16, 0), (242, 0, .iconst 1, 0, 0, 0), (243, 0, .iadd, 0, 0, 0), 
  (244, 6, .putfield 115, 12, 16, 0), (247, 3, .goto (-60), 187, 0, 0), (250, 1, .aload_n 0, 0, 0, 0), (251, 0, .iconst 2, 0, 0, 0), 
  (252, 6, .putfield 135, 12, 17, 0), (255, 3, .goto 76, 331, 0, 0), (258, 1, .aload_n 0, 0, 0, 0), (259, 0, .dup, 0, 0, 0), 
  (260, 5, .getfield 115, 12, 16, 0), (263, 0, .iconst 1, 0, 0, 0), (264, 0, .iadd, 0, 0, 0), (265, 6, .putfield 115, 12, 16, 0), 
  (268, 1, .aload_n 0, 0, 0, 0), (269, 1, .iload_n 1, 0, 0, 0), (270, 0, .bipush 59, 0, 0, 0), (272, 3, .if_icmp .eq 51, 323, 0, 0), 
  (275, 1, .iload_n 1, 0, 0, 0), (276, 0, .bipush 40, 0, 0, 0), (278, 3, .if_icmp .eq 45, 323, 0, 0), (281, 1, .iload_n 1, 0, 0, 0), 
  (282, 0, .bipush 41, 0, 0, 0), (284, 3, .if_icmp .eq 39, 323, 0, 0), (287, 1, .iload_n 1, 0, 0, 0), (288, 0, .bipush 43, 0, 0, 0), 
  (290, 3, .if_icmp .eq 33, 323, 0, 0), (293, 1, .iload_n 1, 0, 0, 0), (294, 0, .bipush 45, 0, 0, 0), (296, 3, .if_icmp .eq 27, 323, 0, 0), 
  (299, 1, .iload_n 1, 0, 0, 0), (300, 0, .bipush 42, 0, 0, 0), (302, 3, .if_icmp .eq 21, 323, 0, 0), (305, 1, .iload_n 1, 0, 0, 0), 
  (306, 0, .bipush 47, 0, 0, 0), (308, 3, .if_icmp .eq 15, 323, 0, 0), (311, 1, .iload_n 1, 0, 0, 0), (312, 0, .bipush 60, 0, 0, 0), 
  (314, 3, .if_icmp .eq 9, 323, 0, 0), (317, 1, .iload_n 1, 0, 0, 0), (318, 0, .bipush 61, 0, 0, 0), (320, 3, .if_icmp .ne 7, 327, 0, 0), 
  (323, 0, .iconst 3, 0, 0, 0), (324, 3, .goto 4, 328, 0, 0), (327, 0, .iconst 4, 0, 0, 0), (328, 6, .putfield 135, 12, 17, 0), 
  (331, 1, .aload_n 0, 0, 0, 0), (332, 1, .aload_n 0, 0, 0, 0), (333, 5, .getfield 115, 12, 16, 0), (336, 1, .aload_n 0, 0, 0, 0), 
  (337, 5, .getfield 122, 12, 18, 0), (340, 0, .isub, 0, 0, 0), (341, 6, .putfield 145, 12, 19, 0), (344, 13, .return_, 0, 0, 0)]
/-- TemperDownsModel.byteAt(I)I -/
noncomputable def zk190 : List (Nat × zJ) := [
  (0, 1, .iload_n 1, 0, 0, 0), (1, 1, .aload_n 0, 0, 0, 0), (2, 5, .getfield 112, 12, 15, 0), (5, 3, .if_icmp .ge 12, 17, 0, 0), 
  (8, 1, .aload_n 0, 0, 0, 0), (9, 5, .getfield 32, 12, 10, 0), (12, 1, .iload_n 1, 0, 0, 0), (13, 7, .iaload, 0, 0, 0), (14, 3, .goto 4, 18, 0, 0), 
  (17, 0, .iconst 0, 0, 0, 0), (18, 13, .ireturn, 0, 0, 0)]
/-- TemperDownsModel.isLetter(I)Z -/
noncomputable def zk191 : List (Nat × zJ) := [
  (0, 1, .iload_n 0, 0, 0, 0), (1, 0, .bipush 97, 0, 0, 0), (3, 3, .if_icmp .lt 13, 16, 0, 0), (6, 1, .iload_n 0, 0, 0, 0), 
  (7, 0, .bipush 122, 0, 0, 0), (9, 3, .if_icmp .gt 7, 16, 0, 0), (12, 0, .iconst 1, 0, 0, 0), (13, 3, .goto 4, 17, 0, 0), (16, 0, .iconst 0, 0, 0, 0), 
  (17, 13, .ireturn, 0, 0, 0)]
/-- TemperDownsModel.isDigit(I)Z -/
noncomputable def zk192 : List (Nat × zJ) := [
  (0, 1, .iload_n 0, 0, 0, 0), (1, 0, .bipush 48, 0, 0, 0), (3, 3, .if_icmp .lt 13, 16, 0, 0), (6, 1, .iload_n 0, 0, 0, 0), 
  (7, 0, .bipush 57, 0, 0, 0), (9, 3, .if_icmp .gt 7, 16, 0, 0), (12, 0, .iconst 1, 0, 0, 0), (13, 3, .goto 4, 17, 0, 0), (16, 0, .iconst 0, 0, 0, 0), 
  (17, 13, .ireturn, 0, 0, 0)]
/-- TemperDownsModel.knownWord()I -/
noncomputable def zk193 : List (Nat × zJ) := [
  (0, 1, .aload_n 0, 0, 0, 0), (1, 5, .getfield 135, 12, 17, 0), (4, 0, .iconst 1, 0, 0, 0), (5, 3, .if_icmp .ne 12, 17, 0, 0), 
  (8, 1, .aload_n 0, 0, 0, 0), (9, 5, .getfield 145, 12, 19, 0), (12, 0, .bipush 6, 0, 0, 0), (14, 3, .if_icmp .le 5, 19, 0, 0), 
  (17, 0, .iconst (-1), 0, 0, 0), (18, 13, .ireturn, 0, 0, 0), (19, 0, .iconst 0, 0, 0, 0), (20, 22, .istore_n 1, 0, 0, 0), 
  (21, 1, .iload_n 1, 0, 0, 0), (22, 0, .bipush 17, 0, 0, 0), (24, 3, .if_icmp .ge 23, 47, 0, 0), (27, 1, .iload_n 1, 0, 0, 0), 
  (28, 12, .invokestatic 154, 194, 1, 0), (31, 1, .aload_n 0, 0, 0, 0), (32, 5, .getfield 125, 12, 22, 0), (35, 0, .lcmp, 0, 0, 0), 
  (36, 3, .ifCond .ne 5, 41, 0, 0), (39, 1, .iload_n 1, 0, 0, 0), (40, 13, .ireturn, 0, 0, 0), (41, 22, .iinc 1 1, 0, 0, 0), 
  (44, 3, .goto (-23), 21, 0, 0), (47, 0, .iconst (-1), 0, 0, 0), (48, 13, .ireturn, 0, 0, 0)]
/-- TemperDownsModel.letters(I)J -/
noncomputable def zk194 : List (Nat × zJ) := [
  (0, 1, .iload_n 0, 0, 0, 0), (1, 4, .tableswitch 310 0 15 #[79, 93, 109, 125, 140, 153, 168, 182, 195, 209, 224, 240, 254, 269, 285, 298], 0, 0, 0), 
  (80, 0, .bipush 109, 0, 0, 0), (82, 0, .bipush 105, 0, 0, 0), (84, 0, .bipush 108, 0, 0, 0), (86, 0, .bipush 100, 0, 0, 0), 
  (88, 0, .iconst 0, 0, 0, 0), (89, 0, .iconst 0, 0, 0, 0), (90, 12, .invokestatic 150, 195, 6, 0), (93, 13, .lreturn, 0, 0, 0), 
  (94, 0, .bipush 116, 0, 0, 0), (96, 0, .bipush 101, 0, 0, 0), (98, 0, .bipush 109, 0, 0, 0), (100, 0, .bipush 112, 0, 0, 0), 
  (102, 0, .bipush 101, 0, 0, 0), (104, 0, .bipush 114, 0, 0, 0), (106, 12, .invokestatic 150, 195, 6, 0), (109, 13, .lreturn, 0, 0, 0), 
  (110, 0, .bipush 115, 0, 0, 0), (112, 0, .bipush 104, 0, 0, 0), (114, 0, .bipush 111, 0, 0, 0), (116, 0, .bipush 117, 0, 0, 0), 
  (118, 0, .bipush 116, 0, 0, 0), (120, 0, .bipush 115, 0, 0, 0), (122, 12, .invokestatic 150, 195, 6, 0), (125, 13, .lreturn, 0, 0, 0), 
  (126, 0, .bipush 104, 0, 0, 0), (128, 0, .bipush 101, 0, 0, 0), (130, 0, .bipush 97, 0, 0, 0), (132, 0, .bipush 114, 0, 0, 0), 
  (134, 0, .bipush 100, 0, 0, 0), (136, 0, .iconst 0, 0, 0, 0), (137, 12, .invokestatic 150, 195, 6, 0), (140, 13, .lreturn, 0, 0, 0), 
  (141, 0, .bipush 100, 0, 0, 0), (143, 0, .bipush 97, 0, 0, 0), (145, 0, .bipush 121, 0, 0, 0), (147, 0, .iconst 0, 0, 0, 0), 
  (148, 0, .iconst 0, 0, 0, 0), (149, 0, .iconst 0, 0, 0, 0), (150, 12, .invokestatic 150, 195, 6, 0), (153, 13, .lreturn, 0, 0, 0), 
  (154, 0, .bipush 104, 0, 0, 0), (156, 0, .bipush 111, 0, 0, 0), (158, 0, .bipush 108, 0, 0, 0), (160, 0, .bipush 100, 0, 0, 0), 
  (162, 0, .bipush 115, 0, 0, 0), (164, 0, .iconst 0, 0, 0, 0), (165, 12, .invokestatic 150, 195, 6, 0), (168, 13, .lreturn, 0, 0, 0), 
  (169, 0, .bipush 115, 0, 0, 0), (171, 0, .bipush 105, 0, 0, 0), (173, 0, .bipush 122, 0, 0, 0), (175, 0, .bipush 101, 0, 0, 0), 
  (177, 0, .iconst 0, 0, 0, 0), (178, 0, .iconst 0, 0, 0, 0), (179, 12, .invokestatic 150, 195, 6, 0), (182, 13, .lreturn, 0, 0, 0), 
  (183, 0, .bipush 97, 0, 0, 0), (185, 0, .bipush 103, 0, 0, 0), (187, 0, .bipush 101, 0, 0, 0), (189, 0, .iconst 0, 0, 0, 0), 
  (190, 0, .iconst 0, 0, 0, 0), (191, 0, .iconst 0, 0, 0, 0), (192, 12, .invokestatic 150, 195, 6, 0), (195, 13, .lreturn, 0, 0, 0), 
  (196, 0, .bipush 110, 0, 0, 0), (198, 0, .bipush 101, 0, 0, 0), (200, 0, .bipush 97, 0, 0, 0), (202, 0, .bipush 114, 0, 0, 0), 
  (204, 0, .iconst 0, 0, 0, 0), (205, 0, .iconst 0, 0, 0, 0), (206, 12, .invokestatic 150, 195, 6, 0), (209, 13, .lreturn, 0, 0, 0), 
  (210, 0, .bipush 100, 0, 0, 0), (212, 0, .bipush 111, 0, 0, 0), (214, 0, .bipush 119, 0, 0, 0), (216, 0, .bipush 110, 0, 0, 0), 
  (218, 0, .bipush 115, 0, 0, 0), (220, 0, .iconst 0, 0, 0, 0), (221, 12, .invokestatic 150, 195, 6, 0), (224, 13, .lreturn, 0, 0, 0), 
  (225, 0, .bipush 112, 0, 0, 0), (227, 0, .bipush 101, 0, 0, 0), (229, 0, .bipush 114, 0, 0, 0), (231, 0, .bipush 115, 0, 0, 0), 
  (233, 0, .bipush 111, 0, 0, 0), (235, 0, .bipush 110, 0, 0, 0), (237, 12, .invokestatic 150, 195, 6, 0), (240, 13, .lreturn, 0, 0, 0), 
  (241, 0, .bipush 98, 0, 0, 0), (243, 0, .bipush 97, 0, 0, 0), (245, 0, .bipush 108, 0, 0, 0), (247, 0, .bipush 108, 0, 0, 0), 
  (249, 0, .iconst 0, 0, 0, 0), (250, 0, .iconst 0, 0, 0, 0), (251, 12, .invokestatic 150, 195, 6, 0), (254, 13, .lreturn, 0, 0, 0), 
  (255, 0, .bipush 114, 0, 0, 0), (257, 0, .bipush 105, 0, 0, 0), (259, 0, .bipush 115, 0, 0, 0), (261, 0, .bipush 101, 0, 0, 0), 
  (263, 0, .bipush 115, 0, 0, 0), (265, 0, .iconst 0, 0, 0, 0), (266, 12, .invokestatic 150, 195, 6, 0), (269, 13, .lreturn, 0, 0, 0), 
  (270, 0, .bipush 98, 0, 0, 0), (272, 0, .bipush 117, 0, 0, 0), (274, 0, .bipush 114, 0, 0, 0), (276, 0, .bipush 115, 0, 0, 0), 
  (278, 0, .bipush 116, 0, 0, 0), (280, 0, .bipush 115, 0, 0, 0), (282, 12, .invokestatic 150, 195, 6, 0), (285, 13, .lreturn, 0, 0, 0), 
  (286, 0, .bipush 97, 0, 0, 0), (288, 0, .bipush 110, 0, 0, 0), (290, 0, .bipush 100, 0, 0, 0), (292, 0, .iconst 0, 0, 0, 0), 
  (293, 0, .iconst 0, 0, 0, 0), (294, 0, .iconst 0, 0, 0, 0), (295, 12, .invokestatic 150, 195, 6, 0), (298, 13, .lreturn, 0, 0, 0), 
  (299, 0, .bipush 111, 0, 0, 0), (301, 0, .bipush 114, 0, 0, 0), (303, 0, .iconst 0, 0, 0, 0), (304, 0, .iconst 0, 0, 0, 0), 
  (305, 0, .iconst 0, 0, 0, 0), (306, 0, .iconst 0, 0, 0, 0), (307, 12, .invokestatic 150, 195, 6, 0), (310, 13, .lreturn, 0, 0, 0), 
  (311, 0, .bipush 110, 0, 0, 0), (313, 0, .bipush 111, 0, 0, 0), (315, 0, .bipush 116, 0, 0, 0), (317, 0, .iconst 0, 0, 0, 0), 
  (318, 0, .iconst 0, 0, 0, 0), (319, 0, .iconst 0, 0, 0, 0), (320, 12, .invokestatic 150, 195, 6, 0), (323, 13, .lreturn, 0, 0, 0)]
/-- TemperDownsModel.spelled(IIIIII)J -/
noncomputable def zk195 : List (Nat × zJ) := [
  (0, 1, .iload_n 0, 0, 0, 0), (1, 0, .i2l, 0, 0, 0), (2, 20, .ldc2_w 148, 96, 0, 0), (5, 0, .lsub, 0, 0, 0), (6, 0, .iconst 5, 0, 0, 0), 
  (7, 0, .lshl, 0, 0, 0), (8, 1, .iload_n 1, 0, 0, 0), (9, 0, .bipush 96, 0, 0, 0), (11, 0, .isub, 0, 0, 0), (12, 0, .i2l, 0, 0, 0), 
  (13, 0, .lor, 0, 0, 0), (14, 2, .lstore 6, 0, 0, 0), (16, 1, .iload_n 2, 0, 0, 0), (17, 3, .ifCond .eq 15, 32, 0, 0), (20, 1, .lload 6, 0, 0, 0), 
  (22, 0, .iconst 5, 0, 0, 0), (23, 0, .lshl, 0, 0, 0), (24, 1, .iload_n 2, 0, 0, 0), (25, 0, .bipush 96, 0, 0, 0), (27, 0, .isub, 0, 0, 0), 
  (28, 0, .i2l, 0, 0, 0), (29, 0, .lor, 0, 0, 0), (30, 2, .lstore 6, 0, 0, 0), (32, 1, .iload_n 3, 0, 0, 0), (33, 3, .ifCond .eq 15, 48, 0, 0), 
  (36, 1, .lload 6, 0, 0, 0), (38, 0, .iconst 5, 0, 0, 0), (39, 0, .lshl, 0, 0, 0), (40, 1, .iload_n 3, 0, 0, 0), (41, 0, .bipush 96, 0, 0, 0), 
  (43, 0, .isub, 0, 0, 0), (44, 0, .i2l, 0, 0, 0), (45, 0, .lor, 0, 0, 0), (46, 2, .lstore 6, 0, 0, 0), (48, 1, .iload 4, 0, 0, 0), 
  (50, 3, .ifCond .eq 16, 66, 0, 0), (53, 1, .lload 6, 0, 0, 0), (55, 0, .iconst 5, 0, 0, 0), (56, 0, .lshl, 0, 0, 0), (57, 1, .iload 4, 0, 0, 0), 
  (59, 0, .bipush 96, 0, 0, 0), (61, 0, .isub, 0, 0, 0), (62, 0, .i2l, 0, 0, 0), (63, 0, .lor, 0, 0, 0), (64, 2, .lstore 6, 0, 0, 0), 
  (66, 1, .iload 5, 0, 0, 0), (68, 3, .ifCond .eq 16, 84, 0, 0), (71, 1, .lload 6, 0, 0, 0), (73, 0, .iconst 5, 0, 0, 0), (74, 0, .lshl, 0, 0, 0), 
  (75, 1, .iload 5, 0, 0, 0), (77, 0, .bipush 96, 0, 0, 0), (79, 0, .isub, 0, 0, 0), (80, 0, .i2l, 0, 0, 0), (81, 0, .lor, 0, 0, 0), 
  (82, 2, .lstore 6, 0, 0, 0), (84, 1, .lload 6, 0, 0, 0), (86, 13, .lreturn, 0, 0, 0)]
/-- TemperDownsModel.number(II)I -/
noncomputable def zk196 : List (Nat × zJ) := [
  (0, 1, .aload_n 0, 0, 0, 0), (1, 12, .invokevirtual 161, 197, 1, 13), (4, 3, .ifCond .ne 5, 9, 0, 0), (7, 0, .iconst 0, 0, 0, 0), 
  (8, 13, .ireturn, 0, 0, 0), (9, 1, .aload_n 0, 0, 0, 0), (10, 5, .getfield 135, 12, 17, 0), (13, 0, .iconst 2, 0, 0, 0), 
  (14, 3, .if_icmp .eq 11, 25, 0, 0), (17, 1, .aload_n 0, 0, 0, 0), (18, 0, .iconst 1, 0, 0, 0), (19, 12, .invokevirtual 168, 198, 2, 13), 
  (22, 3, .goto 32, 54, 0, 0), (25, 1, .aload_n 0, 0, 0, 0), (26, 5, .getfield 145, 12, 19, 0), (29, 0, .iconst 4, 0, 0, 0), 
  (30, 3, .if_icmp .gt 19, 49, 0, 0), (33, 1, .aload_n 0, 0, 0, 0), (34, 5, .getfield 129, 12, 20, 0), (37, 1, .iload_n 1, 0, 0, 0), 
  (38, 3, .if_icmp .lt 11, 49, 0, 0), (41, 1, .aload_n 0, 0, 0, 0), (42, 5, .getfield 129, 12, 20, 0), (45, 1, .iload_n 2, 0, 0, 0), 
  (46, 3, .if_icmp .le 8, 54, 0, 0), (49, 1, .aload_n 0, 0, 0, 0), (50, 0, .iconst 2, 0, 0, 0), (51, 12, .invokevirtual 168, 198, 2, 13), 
  (54, 1, .aload_n 0, 0, 0, 0), (55, 5, .getfield 129, 12, 20, 0), (58, 22, .istore_n 3, 0, 0, 0), (59, 1, .aload_n 0, 0, 0, 0), 
  (60, 12, .invokevirtual 161, 197, 1, 13), (63, 3, .ifCond .eq 7, 70, 0, 0), (66, 1, .aload_n 0, 0, 0, 0), (67, 12, .invokevirtual 165, 189, 1, 13), 
  (70, 1, .iload_n 3, 0, 0, 0), (71, 13, .ireturn, 0, 0, 0)]
/-- TemperDownsModel.isGood()Z -/
noncomputable def zk197 : List (Nat × zJ) := [
  (0, 1, .aload_n 0, 0, 0, 0), (1, 5, .getfield 158, 12, 12, 0), (4, 3, .ifCond .ne 7, 11, 0, 0), (7, 0, .iconst 1, 0, 0, 0), 
  (8, 3, .goto 4, 12, 0, 0), (11, 0, .iconst 0, 0, 0, 0), (12, 13, .ireturn, 0, 0, 0)]
/-- TemperDownsModel.wrong(I)V -/
noncomputable def zk198 : List (Nat × zJ) := [
  (0, 1, .aload_n 0, 0, 0, 0), (1, 5, .getfield 158, 12, 12, 0), (4, 3, .ifCond .eq 4, 8, 0, 0), (7, 13, .return_, 0, 0, 0), 
  (8, 1, .aload_n 0, 0, 0, 0), (9, 1, .iload_n 1, 0, 0, 0), (10, 6, .putfield 158, 12, 12, 0), (13, 1, .aload_n 0, 0, 0, 0), 
  (14, 1, .aload_n 0, 0, 0, 0), (15, 5, .getfield 122, 12, 18, 0), (18, 6, .putfield 35, 12, 13, 0), (21, 13, .return_, 0, 0, 0)]
/-- TemperDownsModel.isSign(I)Z -/
noncomputable def zk199 : List (Nat × zJ) := [
  (0, 1, .aload_n 0, 0, 0, 0), (1, 5, .getfield 135, 12, 17, 0), (4, 0, .iconst 3, 0, 0, 0), (5, 3, .if_icmp .ne 15, 20, 0, 0), 
  (8, 1, .aload_n 0, 0, 0, 0), (9, 5, .getfield 132, 12, 21, 0), (12, 1, .iload_n 1, 0, 0, 0), (13, 3, .if_icmp .ne 7, 20, 0, 0), 
  (16, 0, .iconst 1, 0, 0, 0), (17, 3, .goto 4, 21, 0, 0), (20, 0, .iconst 0, 0, 0, 0), (21, 13, .ireturn, 0, 0, 0)]
/-- TemperDownsModel.need(Z)V -/
noncomputable def zk200 : List (Nat × zJ) := [
  (0, 1, .aload_n 0, 0, 0, 0), (1, 12, .invokevirtual 161, 197, 1, 13), (4, 3, .ifCond .ne 4, 8, 0, 0), (7, 13, .return_, 0, 0, 0), 
  (8, 1, .iload_n 1, 0, 0, 0), (9, 3, .ifCond .eq 10, 19, 0, 0), (12, 1, .aload_n 0, 0, 0, 0), (13, 12, .invokevirtual 165, 189, 1, 13), 
  (16, 3, .goto 8, 24, 0, 0), (19, 1, .aload_n 0, 0, 0, 0), (20, 0, .iconst 1, 0, 0, 0), (21, 12, .invokevirtual 168, 198, 2, 13), 
  (24, 13, .return_, 0, 0, 0)]
/-- TemperDownsModel.line()V -/
noncomputable def zk201 : List (Nat × zJ) := [
  (0, 1, .aload_n 0, 0, 0, 0), (1, 12, .invokevirtual 192, 193, 1, 13), (4, 22, .istore_n 1, 0, 0, 0), (5, 1, .iload_n 1, 0, 0, 0), 
  (6, 0, .bipush 10, 0, 0, 0), (8, 3, .if_icmp .ne 32, 40, 0, 0), (11, 1, .aload_n 0, 0, 0, 0), (12, 1, .aload_n 0, 0, 0, 0), 
  (13, 5, .getfield 230, 12, 25, 0), (16, 0, .bipush 7, 0, 0, 0), (18, 3, .if_icmp .ne 7, 25, 0, 0), (21, 0, .iconst 1, 0, 0, 0), 
  (22, 3, .goto 4, 26, 0, 0), (25, 0, .iconst 0, 0, 0, 0), (26, 0, .iconst 0, 0, 0, 0), (27, 12, .invokevirtual 243, 202, 3, 13), 
  (30, 3, .ifCond .eq 139, 169, 0, 0), (33, 1, .aload_n 0, 0, 0, 0), (34, 12, .invokevirtual 247, 203, 1, 13), (37, 3, .goto 132, 169, 0, 0), 
  (40, 1, .iload_n 1, 0, 0, 0), (41, 0, .bipush 11, 0, 0, 0), (43, 3, .if_icmp .ne 32, 75, 0, 0), (46, 1, .aload_n 0, 0, 0, 0), 
  (47, 1, .aload_n 0, 0, 0, 0), (48, 5, .getfield 240, 12, 26, 0), (51, 0, .bipush 10, 0, 0, 0), (53, 3, .if_icmp .ne 7, 60, 0, 0), 
  (56, 0, .iconst 1, 0, 0, 0), (57, 3, .goto 4, 61, 0, 0), (60, 0, .iconst 0, 0, 0, 0), (61, 0, .iconst 0, 0, 0, 0), 
  (62, 12, .invokevirtual 243, 202, 3, 13), (65, 3, .ifCond .eq 104, 169, 0, 0), (68, 1, .aload_n 0, 0, 0, 0), 
  (69, 12, .invokevirtual 250, 205, 1, 13), (72, 3, .goto 97, 169, 0, 0), (75, 1, .iload_n 1, 0, 0, 0), (76, 0, .bipush 12, 0, 0, 0), 
  (78, 3, .if_icmp .ne 41, 119, 0, 0), (81, 1, .aload_n 0, 0, 0, 0), (82, 0, .iconst 0, 0, 0, 0), (83, 1, .aload_n 0, 0, 0, 0), 
  (84, 5, .getfield 253, 12, 27, 0), (87, 0, .iconst (-1), 0, 0, 0), (88, 3, .if_icmp .eq 7, 95, 0, 0), (91, 0, .iconst 1, 0, 0, 0), 
  (92, 3, .goto 4, 96, 0, 0), (95, 0, .iconst 0, 0, 0, 0), (96, 12, .invokevirtual 243, 202, 3, 13), (99, 3, .ifCond .eq 70, 169, 0, 0), 
  (102, 1, .aload_n 0, 0, 0, 0), (103, 1, .aload_n 0, 0, 0, 0), (104, 5, .getfield 177, 12, 29, 0), (107, 6, .putfield 253, 12, 27, 0), 
  (110, 1, .aload_n 0, 0, 0, 0), (111, 0, .iconst 0, 0, 0, 0), (112, 0, .iconst 4, 0, 0, 0), (113, 12, .invokevirtual 256, 206, 3, 13), 
  (116, 3, .goto 53, 169, 0, 0), (119, 1, .iload_n 1, 0, 0, 0), (120, 0, .bipush 13, 0, 0, 0), (122, 3, .if_icmp .ne 42, 164, 0, 0), 
  (125, 1, .aload_n 0, 0, 0, 0), (126, 0, .iconst 0, 0, 0, 0), (127, 1, .aload_n 0, 0, 0, 0), (128, 5, .getfield 260, 12, 28, 0), 
  (131, 0, .iconst (-1), 0, 0, 0), (132, 3, .if_icmp .eq 7, 139, 0, 0), (135, 0, .iconst 1, 0, 0, 0), (136, 3, .goto 4, 140, 0, 0), 
  (139, 0, .iconst 0, 0, 0, 0), (140, 12, .invokevirtual 243, 202, 3, 13), (143, 3, .ifCond .eq 26, 169, 0, 0), (146, 1, .aload_n 0, 0, 0, 0), 
  (147, 1, .aload_n 0, 0, 0, 0), (148, 5, .getfield 177, 12, 29, 0), (151, 6, .putfield 260, 12, 28, 0), (154, 1, .aload_n 0, 0, 0, 0), 
  (155, 0, .iconst 4, 0, 0, 0), (156, 0, .bipush 8, 0, 0, 0), (158, 12, .invokevirtual 256, 206, 3, 13), (161, 3, .goto 8, 169, 0, 0), 
  (164, 1, .aload_n 0, 0, 0, 0), (165, 0, .iconst 1, 0, 0, 0), (166, 12, .invokevirtual 168, 198, 2, 13), (169, 1, .aload_n 0, 0, 0, 0), 
  (170, 1, .aload_n 0, 0, 0, 0), (171, 0, .bipush 59, 0, 0, 0), (173, 12, .invokevirtual 205, 199, 2, 13), (176, 12, .invokevirtual 263, 200, 2, 13), 
  (179, 13, .return_, 0, 0, 0)]
/-- TemperDownsModel.begins(ZZ)Z -/
noncomputable def zk202 : List (Nat × zJ) := [
  (0, 1, .iload_n 1, 0, 0, 0), (1, 3, .ifCond .eq 8, 9, 0, 0), (4, 1, .aload_n 0, 0, 0, 0), (5, 0, .iconst 2, 0, 0, 0), 
  (6, 12, .invokevirtual 168, 198, 2, 13), (9, 1, .iload_n 2, 0, 0, 0), (10, 3, .ifCond .eq 8, 18, 0, 0), (13, 1, .aload_n 0, 0, 0, 0), 
  (14, 0, .iconst 5, 0, 0, 0), (15, 12, .invokevirtual 168, 198, 2, 13), (18, 1, .aload_n 0, 0, 0, 0), (19, 12, .invokevirtual 161, 197, 1, 13), 
  (22, 3, .ifCond .ne 5, 27, 0, 0), (25, 0, .iconst 0, 0, 0, 0), (26, 13, .ireturn, 0, 0, 0), (27, 1, .aload_n 0, 0, 0, 0), 
  (28, 12, .invokevirtual 165, 189, 1, 13), (31, 0, .iconst 1, 0, 0, 0), (32, 13, .ireturn, 0, 0, 0)]
/-- TemperDownsModel.readsPerson()V -/
noncomputable def zk203 : List (Nat × zJ) := [
  (0, 1, .aload_n 0, 0, 0, 0), (1, 5, .getfield 230, 12, 25, 0), (4, 22, .istore_n 1, 0, 0, 0), (5, 1, .aload_n 0, 0, 0, 0), 
  (6, 5, .getfield 41, 12, 34, 0), (9, 1, .iload_n 1, 0, 0, 0), (10, 1, .aload_n 0, 0, 0, 0), (11, 12, .invokevirtual 233, 204, 1, 13), 
  (14, 8, .iastore, 0, 0, 0), (15, 1, .aload_n 0, 0, 0, 0), (16, 5, .getfield 47, 12, 36, 0), (19, 0, .bipush 22, 0, 0, 0), 
  (21, 1, .iload_n 1, 0, 0, 0), (22, 0, .iadd, 0, 0, 0), (23, 1, .aload_n 0, 0, 0, 0), (24, 0, .iconst 0, 0, 0, 0), (25, 0, .bipush 9, 0, 0, 0), 
  (27, 12, .invokevirtual 236, 196, 3, 13), (30, 8, .iastore, 0, 0, 0), (31, 1, .aload_n 0, 0, 0, 0), (32, 5, .getfield 47, 12, 36, 0), 
  (35, 0, .iconst 1, 0, 0, 0), (36, 1, .iload_n 1, 0, 0, 0), (37, 0, .iadd, 0, 0, 0), (38, 1, .aload_n 0, 0, 0, 0), (39, 0, .iconst 0, 0, 0, 0), 
  (40, 0, .bipush 99, 0, 0, 0), (42, 12, .invokevirtual 236, 196, 3, 13), (45, 8, .iastore, 0, 0, 0), (46, 1, .aload_n 0, 0, 0, 0), 
  (47, 12, .invokevirtual 161, 197, 1, 13), (50, 3, .ifCond .eq 13, 63, 0, 0), (53, 1, .aload_n 0, 0, 0, 0), (54, 0, .dup, 0, 0, 0), 
  (55, 5, .getfield 230, 12, 25, 0), (58, 0, .iconst 1, 0, 0, 0), (59, 0, .iadd, 0, 0, 0), (60, 6, .putfield 230, 12, 25, 0), 
  (63, 13, .return_, 0, 0, 0)]
/-- TemperDownsModel.cellHere()I -/
noncomputable def zk204 : List (Nat × zJ) := [
  (0, 1, .aload_n 0, 0, 0, 0), (1, 12, .invokevirtual 161, 197, 1, 13), (4, 3, .ifCond .ne 5, 9, 0, 0), (7, 0, .iconst 0, 0, 0, 0), 
  (8, 13, .ireturn, 0, 0, 0), (9, 1, .aload_n 0, 0, 0, 0), (10, 5, .getfield 135, 12, 17, 0), (13, 0, .iconst 2, 0, 0, 0), 
  (14, 3, .if_icmp .eq 11, 25, 0, 0), (17, 1, .aload_n 0, 0, 0, 0), (18, 0, .iconst 1, 0, 0, 0), (19, 12, .invokevirtual 168, 198, 2, 13), 
  (22, 3, .goto 40, 62, 0, 0), (25, 1, .aload_n 0, 0, 0, 0), (26, 5, .getfield 145, 12, 19, 0), (29, 0, .iconst 4, 0, 0, 0), 
  (30, 3, .if_icmp .le 11, 41, 0, 0), (33, 1, .aload_n 0, 0, 0, 0), (34, 0, .iconst 2, 0, 0, 0), (35, 12, .invokevirtual 168, 198, 2, 13), 
  (38, 3, .goto 24, 62, 0, 0), (41, 1, .aload_n 0, 0, 0, 0), (42, 5, .getfield 129, 12, 20, 0), (45, 1, .aload_n 0, 0, 0, 0), 
  (46, 5, .getfield 171, 12, 23, 0), (49, 1, .aload_n 0, 0, 0, 0), (50, 5, .getfield 174, 12, 24, 0), (53, 0, .imul, 0, 0, 0), 
  (54, 3, .if_icmp .lt 8, 62, 0, 0), (57, 1, .aload_n 0, 0, 0, 0), (58, 0, .iconst 3, 0, 0, 0), (59, 12, .invokevirtual 168, 198, 2, 13), 
  (62, 1, .aload_n 0, 0, 0, 0), (63, 5, .getfield 129, 12, 20, 0), (66, 22, .istore_n 1, 0, 0, 0), (67, 1, .aload_n 0, 0, 0, 0), 
  (68, 12, .invokevirtual 161, 197, 1, 13), (71, 3, .ifCond .eq 7, 78, 0, 0), (74, 1, .aload_n 0, 0, 0, 0), (75, 12, .invokevirtual 165, 189, 1, 13), 
  (78, 1, .iload_n 1, 0, 0, 0), (79, 13, .ireturn, 0, 0, 0)]
/-- TemperDownsModel.readsBall()V -/
noncomputable def zk205 : List (Nat × zJ) := [
  (0, 1, .aload_n 0, 0, 0, 0), (1, 5, .getfield 240, 12, 26, 0), (4, 22, .istore_n 1, 0, 0, 0), (5, 1, .aload_n 0, 0, 0, 0), 
  (6, 5, .getfield 47, 12, 36, 0), (9, 0, .bipush 29, 0, 0, 0), (11, 1, .iload_n 1, 0, 0, 0), (12, 0, .iadd, 0, 0, 0), (13, 1, .aload_n 0, 0, 0, 0), 
  (14, 12, .invokevirtual 233, 204, 1, 13), (17, 8, .iastore, 0, 0, 0), (18, 1, .aload_n 0, 0, 0, 0), (19, 5, .getfield 44, 12, 35, 0), 
  (22, 1, .iload_n 1, 0, 0, 0), (23, 1, .aload_n 0, 0, 0, 0), (24, 0, .iconst 1, 0, 0, 0), (25, 0, .bipush 99, 0, 0, 0), 
  (27, 12, .invokevirtual 236, 196, 3, 13), (30, 8, .iastore, 0, 0, 0), (31, 1, .aload_n 0, 0, 0, 0), (32, 5, .getfield 47, 12, 36, 0), 
  (35, 0, .bipush 39, 0, 0, 0), (37, 1, .iload_n 1, 0, 0, 0), (38, 0, .iadd, 0, 0, 0), (39, 0, .iconst 0, 0, 0, 0), (40, 8, .iastore, 0, 0, 0), 
  (41, 1, .aload_n 0, 0, 0, 0), (42, 5, .getfield 47, 12, 36, 0), (45, 0, .bipush 59, 0, 0, 0), (47, 1, .iload_n 1, 0, 0, 0), (48, 0, .iadd, 0, 0, 0), 
  (49, 0, .iconst (-1), 0, 0, 0), (50, 8, .iastore, 0, 0, 0), (51, 1, .aload_n 0, 0, 0, 0), (52, 12, .invokevirtual 161, 197, 1, 13), 
  (55, 3, .ifCond .eq 35, 90, 0, 0), (58, 1, .aload_n 0, 0, 0, 0), (59, 12, .invokevirtual 192, 193, 1, 13), (62, 0, .iconst 5, 0, 0, 0), 
  (63, 3, .if_icmp .ne 27, 90, 0, 0), (66, 1, .aload_n 0, 0, 0, 0), (67, 12, .invokevirtual 165, 189, 1, 13), (70, 1, .aload_n 0, 0, 0, 0), 
  (71, 5, .getfield 47, 12, 36, 0), (74, 0, .bipush 39, 0, 0, 0), (76, 1, .iload_n 1, 0, 0, 0), (77, 0, .iadd, 0, 0, 0), (78, 1, .aload_n 0, 0, 0, 0), 
  (79, 0, .iconst 1, 0, 0, 0), (80, 1, .aload_n 0, 0, 0, 0), (81, 5, .getfield 44, 12, 35, 0), (84, 1, .iload_n 1, 0, 0, 0), (85, 7, .iaload, 0, 0, 0), 
  (86, 12, .invokevirtual 236, 196, 3, 13), (89, 8, .iastore, 0, 0, 0), (90, 1, .aload_n 0, 0, 0, 0), (91, 12, .invokevirtual 161, 197, 1, 13), 
  (94, 3, .ifCond .eq 13, 107, 0, 0), (97, 1, .aload_n 0, 0, 0, 0), (98, 0, .dup, 0, 0, 0), (99, 5, .getfield 240, 12, 26, 0), 
  (102, 0, .iconst 1, 0, 0, 0), (103, 0, .iadd, 0, 0, 0), (104, 6, .putfield 240, 12, 26, 0), (107, 13, .return_, 0, 0, 0)]
/-- TemperDownsModel.expression(II)V -/
noncomputable def zk206 : List (Nat × zJ) := [
  (0, 1, .aload_n 0, 0, 0, 0), (1, 12, .invokevirtual 161, 197, 1, 13), (4, 3, .ifCond .ne 4, 8, 0, 0), (7, 13, .return_, 0, 0, 0), 
  (8, 1, .aload_n 0, 0, 0, 0), (9, 1, .iload_n 1, 0, 0, 0), (10, 6, .putfield 196, 12, 30, 0), (13, 1, .aload_n 0, 0, 0, 0), 
  (14, 1, .iload_n 2, 0, 0, 0), (15, 6, .putfield 199, 12, 31, 0), (18, 1, .aload_n 0, 0, 0, 0), (19, 0, .iconst 0, 0, 0, 0), 
  (20, 6, .putfield 180, 12, 32, 0), (23, 1, .aload_n 0, 0, 0, 0), (24, 0, .iconst 0, 0, 0, 0), (25, 6, .putfield 202, 12, 33, 0), 
  (28, 1, .aload_n 0, 0, 0, 0), (29, 12, .invokevirtual 211, 207, 1, 13), (32, 1, .aload_n 0, 0, 0, 0), (33, 0, .iconst 1, 0, 0, 0), 
  (34, 12, .invokevirtual 220, 208, 2, 13), (37, 0, .iconst 1, 0, 0, 0), (38, 22, .istore_n 3, 0, 0, 0), (39, 1, .iload_n 3, 0, 0, 0), 
  (40, 3, .ifCond .eq 300, 340, 0, 0), (43, 1, .aload_n 0, 0, 0, 0), (44, 12, .invokevirtual 161, 197, 1, 13), (47, 3, .ifCond .eq 293, 340, 0, 0), 
  (50, 1, .aload_n 0, 0, 0, 0), (51, 12, .invokevirtual 192, 193, 1, 13), (54, 22, .istore 4, 0, 0, 0), (56, 1, .iload 4, 0, 0, 0), 
  (58, 0, .bipush 14, 0, 0, 0), (60, 3, .if_icmp .eq 10, 70, 0, 0), (63, 1, .iload 4, 0, 0, 0), (65, 0, .bipush 15, 0, 0, 0), 
  (67, 3, .if_icmp .ne 57, 124, 0, 0), (70, 1, .aload_n 0, 0, 0, 0), (71, 1, .iload 4, 0, 0, 0), (73, 0, .bipush 14, 0, 0, 0), 
  (75, 3, .if_icmp .ne 7, 82, 0, 0), (78, 0, .iconst 2, 0, 0, 0), (79, 3, .goto 4, 83, 0, 0), (82, 0, .iconst 1, 0, 0, 0), 
  (83, 12, .invokevirtual 217, 212, 2, 13), (86, 1, .aload_n 0, 0, 0, 0), (87, 1, .iload 4, 0, 0, 0), (89, 0, .bipush 14, 0, 0, 0), 
  (91, 3, .if_icmp .ne 7, 98, 0, 0), (94, 0, .iconst 4, 0, 0, 0), (95, 3, .goto 4, 99, 0, 0), (98, 0, .iconst 5, 0, 0, 0), 
  (99, 12, .invokevirtual 208, 209, 2, 13), (102, 1, .aload_n 0, 0, 0, 0), (103, 5, .getfield 56, 12, 39, 0), (106, 1, .aload_n 0, 0, 0, 0), 
  (107, 5, .getfield 202, 12, 33, 0), (110, 0, .iconst 0, 0, 0, 0), (111, 8, .bastore, 0, 0, 0), (112, 1, .aload_n 0, 0, 0, 0), 
  (113, 12, .invokevirtual 165, 189, 1, 13), (116, 1, .aload_n 0, 0, 0, 0), (117, 0, .iconst 1, 0, 0, 0), (118, 12, .invokevirtual 220, 208, 2, 13), 
  (121, 3, .goto 216, 337, 0, 0), (124, 1, .aload_n 0, 0, 0, 0), (125, 0, .bipush 60, 0, 0, 0), (127, 12, .invokevirtual 205, 199, 2, 13), 
  (130, 3, .ifCond .ne 12, 142, 0, 0), (133, 1, .aload_n 0, 0, 0, 0), (134, 0, .bipush 61, 0, 0, 0), (136, 12, .invokevirtual 205, 199, 2, 13), 
  (139, 3, .ifCond .eq 62, 201, 0, 0), (142, 1, .aload_n 0, 0, 0, 0), (143, 5, .getfield 56, 12, 39, 0), (146, 1, .aload_n 0, 0, 0, 0), 
  (147, 5, .getfield 202, 12, 33, 0), (150, 7, .baload, 0, 0, 0), (151, 3, .ifCond .ne 50, 201, 0, 0), (154, 1, .aload_n 0, 0, 0, 0), 
  (155, 0, .iconst 4, 0, 0, 0), (156, 12, .invokevirtual 217, 212, 2, 13), (159, 1, .aload_n 0, 0, 0, 0), (160, 1, .aload_n 0, 0, 0, 0), 
  (161, 0, .bipush 60, 0, 0, 0), (163, 12, .invokevirtual 205, 199, 2, 13), (166, 3, .ifCond .eq 8, 174, 0, 0), (169, 0, .bipush 6, 0, 0, 0), 
  (171, 3, .goto 5, 176, 0, 0), (174, 0, .bipush 7, 0, 0, 0), (176, 12, .invokevirtual 208, 209, 2, 13), (179, 1, .aload_n 0, 0, 0, 0), 
  (180, 5, .getfield 56, 12, 39, 0), (183, 1, .aload_n 0, 0, 0, 0), (184, 5, .getfield 202, 12, 33, 0), (187, 0, .iconst 1, 0, 0, 0), 
  (188, 8, .bastore, 0, 0, 0), (189, 1, .aload_n 0, 0, 0, 0), (190, 12, .invokevirtual 165, 189, 1, 13), (193, 1, .aload_n 0, 0, 0, 0), 
  (194, 0, .iconst 0, 0, 0, 0), (195, 12, .invokevirtual 220, 208, 2, 13), (198, 3, .goto 139, 337, 0, 0), (201, 1, .aload_n 0, 0, 0, 0), 
  (202, 0, .bipush 43, 0, 0, 0), (204, 12, .invokevirtual 205, 199, 2, 13), (207, 3, .ifCond .ne 12, 219, 0, 0), (210, 1, .aload_n 0, 0, 0, 0), 
  (211, 0, .bipush 45, 0, 0, 0), (213, 12, .invokevirtual 205, 199, 2, 13), (216, 3, .ifCond .eq 40, 256, 0, 0), (219, 1, .aload_n 0, 0, 0, 0), 
  (220, 0, .iconst 5, 0, 0, 0), (221, 12, .invokevirtual 217, 212, 2, 13), (224, 1, .aload_n 0, 0, 0, 0), (225, 1, .aload_n 0, 0, 0, 0), 
  (226, 0, .bipush 43, 0, 0, 0), (228, 12, .invokevirtual 205, 199, 2, 13), (231, 3, .ifCond .eq 8, 239, 0, 0), (234, 0, .bipush 8, 0, 0, 0), 
  (236, 3, .goto 5, 241, 0, 0), (239, 0, .bipush 9, 0, 0, 0), (241, 12, .invokevirtual 208, 209, 2, 13), (244, 1, .aload_n 0, 0, 0, 0), 
  (245, 12, .invokevirtual 165, 189, 1, 13), (248, 1, .aload_n 0, 0, 0, 0), (249, 0, .iconst 0, 0, 0, 0), (250, 12, .invokevirtual 220, 208, 2, 13), 
  (253, 3, .goto 84, 337, 0, 0), (256, 1, .aload_n 0, 0, 0, 0), (257, 0, .bipush 42, 0, 0, 0), (259, 12, .invokevirtual 205, 199, 2, 13), 
  (262, 3, .ifCond .ne 12, 274, 0, 0), (265, 1, .aload_n 0, 0, 0, 0), (266, 0, .bipush 47, 0, 0, 0), (268, 12, .invokevirtual 205, 199, 2, 13), 
  (271, 3, .ifCond .eq 41, 312, 0, 0), (274, 1, .aload_n 0, 0, 0, 0), (275, 0, .bipush 6, 0, 0, 0), (277, 12, .invokevirtual 217, 212, 2, 13), 
  (280, 1, .aload_n 0, 0, 0, 0), (281, 1, .aload_n 0, 0, 0, 0), (282, 0, .bipush 42, 0, 0, 0), (284, 12, .invokevirtual 205, 199, 2, 13), 
  (287, 3, .ifCond .eq 8, 295, 0, 0), (290, 0, .bipush 10, 0, 0, 0), (292, 3, .goto 5, 297, 0, 0), (295, 0, .bipush 11, 0, 0, 0), 
  (297, 12, .invokevirtual 208, 209, 2, 13), (300, 1, .aload_n 0, 0, 0, 0), (301, 12, .invokevirtual 165, 189, 1, 13), (304, 1, .aload_n 0, 0, 0, 0), 
  (305, 0, .iconst 0, 0, 0, 0), (306, 12, .invokevirtual 220, 208, 2, 13), (309, 3, .goto 28, 337, 0, 0), (312, 1, .aload_n 0, 0, 0, 0), 
  (313, 0, .bipush 41, 0, 0, 0), (315, 12, .invokevirtual 205, 199, 2, 13), (318, 3, .ifCond .eq 17, 335, 0, 0), (321, 1, .aload_n 0, 0, 0, 0), 
  (322, 12, .invokevirtual 224, 215, 1, 13), (325, 3, .ifCond .eq 10, 335, 0, 0), (328, 1, .aload_n 0, 0, 0, 0), 
  (329, 12, .invokevirtual 227, 216, 1, 13), (332, 3, .goto 5, 337, 0, 0), (335, 0, .iconst 0, 0, 0, 0), (336, 22, .istore_n 3, 0, 0, 0), 
  (337, 3, .goto (-298), 39, 0, 0), (340, 1, .aload_n 0, 0, 0, 0), (341, 12, .invokevirtual 161, 197, 1, 13), (344, 3, .ifCond .eq 16, 360, 0, 0), 
  (347, 1, .aload_n 0, 0, 0, 0), (348, 5, .getfield 202, 12, 33, 0), (351, 0, .iconst 1, 0, 0, 0), (352, 3, .if_icmp .le 8, 360, 0, 0), 
  (355, 1, .aload_n 0, 0, 0, 0), (356, 0, .iconst 1, 0, 0, 0), (357, 12, .invokevirtual 168, 198, 2, 13), (360, 1, .aload_n 0, 0, 0, 0), 
  (361, 0, .iconst 0, 0, 0, 0), (362, 12, .invokevirtual 217, 212, 2, 13), (365, 1, .aload_n 0, 0, 0, 0), (366, 0, .iconst 0, 0, 0, 0), 
  (367, 12, .invokevirtual 189, 211, 2, 13), (370, 13, .return_, 0, 0, 0)]
/-- TemperDownsModel.deeper()V -/
noncomputable def zk207 : List (Nat × zJ) := [
  (0, 1, .aload_n 0, 0, 0, 0), (1, 5, .getfield 202, 12, 33, 0), (4, 0, .bipush 6, 0, 0, 0), (6, 3, .if_icmp .ge 24, 30, 0, 0), 
  (9, 1, .aload_n 0, 0, 0, 0), (10, 0, .dup, 0, 0, 0), (11, 5, .getfield 202, 12, 33, 0), (14, 0, .iconst 1, 0, 0, 0), (15, 0, .iadd, 0, 0, 0), 
  (16, 6, .putfield 202, 12, 33, 0), (19, 1, .aload_n 0, 0, 0, 0), (20, 5, .getfield 56, 12, 39, 0), (23, 1, .aload_n 0, 0, 0, 0), 
  (24, 5, .getfield 202, 12, 33, 0), (27, 0, .iconst 0, 0, 0, 0), (28, 8, .bastore, 0, 0, 0), (29, 13, .return_, 0, 0, 0), 
  (30, 1, .aload_n 0, 0, 0, 0), (31, 1, .aload_n 0, 0, 0, 0), (32, 5, .getfield 135, 12, 17, 0), (35, 0, .iconst 2, 0, 0, 0), 
  (36, 3, .if_icmp .eq 20, 56, 0, 0), (39, 1, .aload_n 0, 0, 0, 0), (40, 5, .getfield 135, 12, 17, 0), (43, 0, .iconst 1, 0, 0, 0), 
  (44, 3, .if_icmp .eq 12, 56, 0, 0), (47, 1, .aload_n 0, 0, 0, 0), (48, 0, .bipush 40, 0, 0, 0), (50, 12, .invokevirtual 205, 199, 2, 13), 
  (53, 3, .ifCond .eq 7, 60, 0, 0), (56, 0, .iconst 2, 0, 0, 0), (57, 3, .goto 4, 61, 0, 0), (60, 0, .iconst 1, 0, 0, 0), 
  (61, 12, .invokevirtual 168, 198, 2, 13), (64, 13, .return_, 0, 0, 0)]
/-- TemperDownsModel.operand(Z)V -/
noncomputable def zk208 : List (Nat × zJ) := [
  (0, 1, .iload_n 1, 0, 0, 0), (1, 22, .istore_n 2, 0, 0, 0), (2, 0, .iconst 1, 0, 0, 0), (3, 22, .istore_n 3, 0, 0, 0), (4, 1, .iload_n 3, 0, 0, 0), 
  (5, 3, .ifCond .eq 115, 120, 0, 0), (8, 1, .aload_n 0, 0, 0, 0), (9, 12, .invokevirtual 161, 197, 1, 13), (12, 3, .ifCond .eq 108, 120, 0, 0), 
  (15, 0, .iconst 0, 0, 0, 0), (16, 22, .istore 4, 0, 0, 0), (18, 1, .aload_n 0, 0, 0, 0), (19, 12, .invokevirtual 161, 197, 1, 13), 
  (22, 3, .ifCond .eq 53, 75, 0, 0), (25, 1, .iload_n 2, 0, 0, 0), (26, 3, .ifCond .eq 49, 75, 0, 0), (29, 1, .aload_n 0, 0, 0, 0), 
  (30, 12, .invokevirtual 192, 193, 1, 13), (33, 0, .bipush 16, 0, 0, 0), (35, 3, .if_icmp .ne 40, 75, 0, 0), (38, 1, .iload 4, 0, 0, 0), 
  (40, 0, .bipush 6, 0, 0, 0), (42, 3, .if_icmp .ne 8, 50, 0, 0), (45, 1, .aload_n 0, 0, 0, 0), (46, 0, .iconst 2, 0, 0, 0), 
  (47, 12, .invokevirtual 168, 198, 2, 13), (50, 22, .iinc 4 1, 0, 0, 0), (53, 1, .aload_n 0, 0, 0, 0), (54, 12, .invokevirtual 161, 197, 1, 13), 
  (57, 3, .ifCond .ne 6, 63, 0, 0), (60, 3, .goto (-42), 18, 0, 0), (63, 1, .aload_n 0, 0, 0, 0), (64, 0, .iconst 3, 0, 0, 0), 
  (65, 12, .invokevirtual 208, 209, 2, 13), (68, 1, .aload_n 0, 0, 0, 0), (69, 12, .invokevirtual 165, 189, 1, 13), (72, 3, .goto (-54), 18, 0, 0), 
  (75, 1, .aload_n 0, 0, 0, 0), (76, 12, .invokevirtual 161, 197, 1, 13), (79, 3, .ifCond .eq 16, 95, 0, 0), (82, 1, .aload_n 0, 0, 0, 0), 
  (83, 0, .bipush 40, 0, 0, 0), (85, 12, .invokevirtual 205, 199, 2, 13), (88, 3, .ifCond .eq 7, 95, 0, 0), (91, 0, .iconst 1, 0, 0, 0), 
  (92, 3, .goto 4, 96, 0, 0), (95, 0, .iconst 0, 0, 0, 0), (96, 22, .istore_n 3, 0, 0, 0), (97, 1, .iload_n 3, 0, 0, 0), 
  (98, 3, .ifCond .eq 19, 117, 0, 0), (101, 1, .aload_n 0, 0, 0, 0), (102, 0, .bipush 14, 0, 0, 0), (104, 12, .invokevirtual 208, 209, 2, 13), 
  (107, 1, .aload_n 0, 0, 0, 0), (108, 12, .invokevirtual 165, 189, 1, 13), (111, 1, .aload_n 0, 0, 0, 0), (112, 12, .invokevirtual 211, 207, 1, 13), 
  (115, 0, .iconst 1, 0, 0, 0), (116, 22, .istore_n 2, 0, 0, 0), (117, 3, .goto (-113), 4, 0, 0), (120, 1, .aload_n 0, 0, 0, 0), 
  (121, 12, .invokevirtual 214, 210, 1, 13), (124, 13, .return_, 0, 0, 0)]
/-- TemperDownsModel.waitsFor(I)V -/
noncomputable def zk209 : List (Nat × zJ) := [
  (0, 1, .aload_n 0, 0, 0, 0), (1, 5, .getfield 53, 12, 38, 0), (4, 1, .aload_n 0, 0, 0, 0), (5, 5, .getfield 180, 12, 32, 0), 
  (8, 1, .iload_n 1, 0, 0, 0), (9, 8, .iastore, 0, 0, 0), (10, 1, .aload_n 0, 0, 0, 0), (11, 0, .dup, 0, 0, 0), (12, 5, .getfield 180, 12, 32, 0), 
  (15, 0, .iconst 1, 0, 0, 0), (16, 0, .iadd, 0, 0, 0), (17, 6, .putfield 180, 12, 32, 0), (20, 13, .return_, 0, 0, 0)]
/-- TemperDownsModel.part()V -/
noncomputable def zk210 : List (Nat × zJ) := [
  (0, 1, .aload_n 0, 0, 0, 0), (1, 12, .invokevirtual 161, 197, 1, 13), (4, 3, .ifCond .ne 4, 8, 0, 0), (7, 13, .return_, 0, 0, 0), 
  (8, 1, .aload_n 0, 0, 0, 0), (9, 5, .getfield 135, 12, 17, 0), (12, 0, .iconst 2, 0, 0, 0), (13, 3, .if_icmp .ne 32, 45, 0, 0), 
  (16, 1, .aload_n 0, 0, 0, 0), (17, 5, .getfield 145, 12, 19, 0), (20, 0, .iconst 4, 0, 0, 0), (21, 3, .if_icmp .le 8, 29, 0, 0), 
  (24, 1, .aload_n 0, 0, 0, 0), (25, 0, .iconst 2, 0, 0, 0), (26, 12, .invokevirtual 168, 198, 2, 13), (29, 1, .aload_n 0, 0, 0, 0), 
  (30, 0, .iconst 1, 0, 0, 0), (31, 12, .invokevirtual 189, 211, 2, 13), (34, 1, .aload_n 0, 0, 0, 0), (35, 1, .aload_n 0, 0, 0, 0), 
  (36, 5, .getfield 129, 12, 20, 0), (39, 12, .invokevirtual 189, 211, 2, 13), (42, 3, .goto 55, 97, 0, 0), (45, 1, .aload_n 0, 0, 0, 0), 
  (46, 5, .getfield 135, 12, 17, 0), (49, 0, .iconst 1, 0, 0, 0), (50, 3, .if_icmp .ne 42, 92, 0, 0), (53, 1, .aload_n 0, 0, 0, 0), 
  (54, 12, .invokevirtual 192, 193, 1, 13), (57, 22, .istore_n 1, 0, 0, 0), (58, 1, .iload_n 1, 0, 0, 0), (59, 1, .aload_n 0, 0, 0, 0), 
  (60, 5, .getfield 196, 12, 30, 0), (63, 3, .if_icmp .lt 11, 74, 0, 0), (66, 1, .iload_n 1, 0, 0, 0), (67, 1, .aload_n 0, 0, 0, 0), 
  (68, 5, .getfield 199, 12, 31, 0), (71, 3, .if_icmp .le 8, 79, 0, 0), (74, 1, .aload_n 0, 0, 0, 0), (75, 0, .iconst 3, 0, 0, 0), 
  (76, 12, .invokevirtual 168, 198, 2, 13), (79, 1, .aload_n 0, 0, 0, 0), (80, 0, .iconst 2, 0, 0, 0), (81, 12, .invokevirtual 189, 211, 2, 13), 
  (84, 1, .aload_n 0, 0, 0, 0), (85, 1, .iload_n 1, 0, 0, 0), (86, 12, .invokevirtual 189, 211, 2, 13), (89, 3, .goto 8, 97, 0, 0), 
  (92, 1, .aload_n 0, 0, 0, 0), (93, 0, .iconst 1, 0, 0, 0), (94, 12, .invokevirtual 168, 198, 2, 13), (97, 1, .aload_n 0, 0, 0, 0), 
  (98, 12, .invokevirtual 161, 197, 1, 13), (101, 3, .ifCond .eq 7, 108, 0, 0), (104, 1, .aload_n 0, 0, 0, 0), 
  (105, 12, .invokevirtual 165, 189, 1, 13), (108, 13, .return_, 0, 0, 0)]
/-- TemperDownsModel.puts(I)V -/
noncomputable def zk211 : List (Nat × zJ) := [
  (0, 1, .aload_n 0, 0, 0, 0), (1, 5, .getfield 50, 12, 37, 0), (4, 1, .aload_n 0, 0, 0, 0), (5, 5, .getfield 177, 12, 29, 0), 
  (8, 1, .iload_n 1, 0, 0, 0), (9, 8, .iastore, 0, 0, 0), (10, 1, .aload_n 0, 0, 0, 0), (11, 0, .dup, 0, 0, 0), (12, 5, .getfield 177, 12, 29, 0), 
  (15, 0, .iconst 1, 0, 0, 0), (16, 0, .iadd, 0, 0, 0), (17, 6, .putfield 177, 12, 29, 0), (20, 13, .return_, 0, 0, 0)]
/-- TemperDownsModel.drops(I)V -/
noncomputable def zk212 : List (Nat × zJ) := [
  (0, 1, .aload_n 0, 0, 0, 0), (1, 5, .getfield 180, 12, 32, 0), (4, 3, .ifCond .le 64, 68, 0, 0), (7, 1, .aload_n 0, 0, 0, 0), 
  (8, 5, .getfield 53, 12, 38, 0), (11, 1, .aload_n 0, 0, 0, 0), (12, 5, .getfield 180, 12, 32, 0), (15, 0, .iconst 1, 0, 0, 0), 
  (16, 0, .isub, 0, 0, 0), (17, 7, .iaload, 0, 0, 0), (18, 12, .invokestatic 183, 213, 1, 0), (21, 3, .ifCond .ne 47, 68, 0, 0), 
  (24, 1, .aload_n 0, 0, 0, 0), (25, 5, .getfield 53, 12, 38, 0), (28, 1, .aload_n 0, 0, 0, 0), (29, 5, .getfield 180, 12, 32, 0), 
  (32, 0, .iconst 1, 0, 0, 0), (33, 0, .isub, 0, 0, 0), (34, 7, .iaload, 0, 0, 0), (35, 12, .invokestatic 186, 214, 1, 0), 
  (38, 1, .iload_n 1, 0, 0, 0), (39, 3, .if_icmp .lt 29, 68, 0, 0), (42, 1, .aload_n 0, 0, 0, 0), (43, 0, .dup, 0, 0, 0), 
  (44, 5, .getfield 180, 12, 32, 0), (47, 0, .iconst 1, 0, 0, 0), (48, 0, .isub, 0, 0, 0), (49, 6, .putfield 180, 12, 32, 0), 
  (52, 1, .aload_n 0, 0, 0, 0), (53, 1, .aload_n 0, 0, 0, 0), (54, 5, .getfield 53, 12, 38, 0), (57, 1, .aload_n 0, 0, 0, 0), 
  (58, 5, .getfield 180, 12, 32, 0), (61, 7, .iaload, 0, 0, 0), (62, 12, .invokevirtual 189, 211, 2, 13), (65, 3, .goto (-65), 0, 0, 0), 
  (68, 13, .return_, 0, 0, 0)]
/-- TemperDownsModel.isOpen(I)Z -/
noncomputable def zk213 : List (Nat × zJ) := [
  (0, 1, .iload_n 0, 0, 0, 0), (1, 0, .bipush 14, 0, 0, 0), (3, 3, .if_icmp .lt 7, 10, 0, 0), (6, 0, .iconst 1, 0, 0, 0), (7, 3, .goto 4, 11, 0, 0), 
  (10, 0, .iconst 0, 0, 0, 0), (11, 13, .ireturn, 0, 0, 0)]
/-- TemperDownsModel.strength(I)I -/
noncomputable def zk214 : List (Nat × zJ) := [
  (0, 1, .iload_n 0, 0, 0, 0), (1, 0, .iconst 5, 0, 0, 0), (2, 3, .if_icmp .ne 7, 9, 0, 0), (5, 0, .iconst 1, 0, 0, 0), (6, 3, .goto 55, 61, 0, 0), 
  (9, 1, .iload_n 0, 0, 0, 0), (10, 0, .iconst 4, 0, 0, 0), (11, 3, .if_icmp .ne 7, 18, 0, 0), (14, 0, .iconst 2, 0, 0, 0), 
  (15, 3, .goto 46, 61, 0, 0), (18, 1, .iload_n 0, 0, 0, 0), (19, 0, .iconst 3, 0, 0, 0), (20, 3, .if_icmp .ne 7, 27, 0, 0), 
  (23, 0, .iconst 3, 0, 0, 0), (24, 3, .goto 37, 61, 0, 0), (27, 1, .iload_n 0, 0, 0, 0), (28, 0, .bipush 6, 0, 0, 0), 
  (30, 3, .if_icmp .eq 9, 39, 0, 0), (33, 1, .iload_n 0, 0, 0, 0), (34, 0, .bipush 7, 0, 0, 0), (36, 3, .if_icmp .ne 7, 43, 0, 0), 
  (39, 0, .iconst 4, 0, 0, 0), (40, 3, .goto 21, 61, 0, 0), (43, 1, .iload_n 0, 0, 0, 0), (44, 0, .bipush 8, 0, 0, 0), 
  (46, 3, .if_icmp .eq 9, 55, 0, 0), (49, 1, .iload_n 0, 0, 0, 0), (50, 0, .bipush 9, 0, 0, 0), (52, 3, .if_icmp .ne 7, 59, 0, 0), 
  (55, 0, .iconst 5, 0, 0, 0), (56, 3, .goto 5, 61, 0, 0), (59, 0, .bipush 6, 0, 0, 0), (61, 13, .ireturn, 0, 0, 0)]
/-- TemperDownsModel.isOpened()Z -/
noncomputable def zk215 : List (Nat × zJ) := [
  (0, 1, .aload_n 0, 0, 0, 0), (1, 5, .getfield 180, 12, 32, 0), (4, 0, .iconst 1, 0, 0, 0), (5, 0, .isub, 0, 0, 0), (6, 22, .istore_n 1, 0, 0, 0), 
  (7, 1, .iload_n 1, 0, 0, 0), (8, 3, .ifCond .lt 21, 29, 0, 0), (11, 1, .aload_n 0, 0, 0, 0), (12, 5, .getfield 53, 12, 38, 0), 
  (15, 1, .iload_n 1, 0, 0, 0), (16, 7, .iaload, 0, 0, 0), (17, 12, .invokestatic 183, 213, 1, 0), (20, 3, .ifCond .ne 9, 29, 0, 0), 
  (23, 22, .iinc 1 (-1), 0, 0, 0), (26, 3, .goto (-19), 7, 0, 0), (29, 1, .iload_n 1, 0, 0, 0), (30, 3, .ifCond .lt 7, 37, 0, 0), 
  (33, 0, .iconst 1, 0, 0, 0), (34, 3, .goto 4, 38, 0, 0), (37, 0, .iconst 0, 0, 0, 0), (38, 13, .ireturn, 0, 0, 0)]
/-- TemperDownsModel.closes()V -/
noncomputable def zk216 : List (Nat × zJ) := [
  (0, 1, .aload_n 0, 0, 0, 0), (1, 0, .iconst 0, 0, 0, 0), (2, 12, .invokevirtual 217, 212, 2, 13), (5, 1, .aload_n 0, 0, 0, 0), (6, 0, .dup, 0, 0, 0), 
  (7, 5, .getfield 180, 12, 32, 0), (10, 0, .iconst 1, 0, 0, 0), (11, 0, .isub, 0, 0, 0), (12, 6, .putfield 180, 12, 32, 0), 
  (15, 1, .aload_n 0, 0, 0, 0), (16, 0, .dup, 0, 0, 0), (17, 5, .getfield 202, 12, 33, 0), (20, 0, .iconst 1, 0, 0, 0), (21, 0, .isub, 0, 0, 0), 
  (22, 6, .putfield 202, 12, 33, 0), (25, 1, .aload_n 0, 0, 0, 0), (26, 12, .invokevirtual 165, 189, 1, 13), (29, 13, .return_, 0, 0, 0)]
/-- TemperDownsModel.copies([I[I)V -/
noncomputable def zk217 : List (Nat × zJ) := [
  (0, 0, .iconst 0, 0, 0, 0), (1, 22, .istore_n 3, 0, 0, 0), (2, 1, .iload_n 3, 0, 0, 0), (3, 1, .aload_n 1, 0, 0, 0), (4, 9, .arraylength, 0, 0, 0), 
  (5, 3, .if_icmp .ge 15, 20, 0, 0), (8, 1, .aload_n 2, 0, 0, 0), (9, 1, .iload_n 3, 0, 0, 0), (10, 1, .aload_n 1, 0, 0, 0), 
  (11, 1, .iload_n 3, 0, 0, 0), (12, 7, .iaload, 0, 0, 0), (13, 8, .iastore, 0, 0, 0), (14, 22, .iinc 3 1, 0, 0, 0), (17, 3, .goto (-15), 2, 0, 0), 
  (20, 13, .return_, 0, 0, 0)]
/-- TemperDownsModel.fault()I -/
noncomputable def zk218 : List (Nat × zJ) := [
  (0, 1, .aload_n 0, 0, 0, 0), (1, 0, .iconst 0, 0, 0, 0), (2, 6, .putfield 102, 12, 0, 0), (5, 1, .aload_n 0, 0, 0, 0), 
  (6, 5, .getfield 35, 12, 13, 0), (9, 13, .ireturn, 0, 0, 0)]
/-- TemperDownsModel.undo()I -/
noncomputable def zk219 : List (Nat × zJ) := [
  (0, 1, .aload_n 0, 0, 0, 0), (1, 0, .iconst 0, 0, 0, 0), (2, 6, .putfield 102, 12, 0, 0), (5, 1, .aload_n 0, 0, 0, 0), 
  (6, 5, .getfield 283, 12, 42, 0), (9, 3, .ifCond .ne 5, 14, 0, 0), (12, 0, .iconst (-1), 0, 0, 0), (13, 13, .ireturn, 0, 0, 0), 
  (14, 1, .aload_n 0, 0, 0, 0), (15, 0, .dup, 0, 0, 0), (16, 5, .getfield 283, 12, 42, 0), (19, 0, .iconst 1, 0, 0, 0), (20, 0, .isub, 0, 0, 0), 
  (21, 6, .putfield 283, 12, 42, 0), (24, 0, .iconst 0, 0, 0, 0), (25, 22, .istore_n 1, 0, 0, 0), (26, 1, .iload_n 1, 0, 0, 0), 
  (27, 0, .bipush 79, 0, 0, 0), (29, 3, .if_icmp .ge 29, 58, 0, 0), (32, 1, .aload_n 0, 0, 0, 0), (33, 5, .getfield 60, 12, 40, 0), 
  (36, 1, .iload_n 1, 0, 0, 0), (37, 1, .aload_n 0, 0, 0, 0), (38, 5, .getfield 63, 12, 41, 0), (41, 0, .bipush 79, 0, 0, 0), 
  (43, 1, .aload_n 0, 0, 0, 0), (44, 5, .getfield 283, 12, 42, 0), (47, 0, .imul, 0, 0, 0), (48, 1, .iload_n 1, 0, 0, 0), (49, 0, .iadd, 0, 0, 0), 
  (50, 7, .iaload, 0, 0, 0), (51, 8, .iastore, 0, 0, 0), (52, 22, .iinc 1 1, 0, 0, 0), (55, 3, .goto (-29), 26, 0, 0), (58, 1, .aload_n 0, 0, 0, 0), 
  (59, 5, .getfield 283, 12, 42, 0), (62, 13, .ireturn, 0, 0, 0)]
/-- TemperDownsModel.count(I)I -/
noncomputable def zk220 : List (Nat × zJ) := [
  (0, 1, .aload_n 0, 0, 0, 0), (1, 0, .iconst 0, 0, 0, 0), (2, 6, .putfield 102, 12, 0, 0), (5, 1, .aload_n 0, 0, 0, 0), (6, 1, .iload_n 1, 0, 0, 0), 
  (7, 0, .iconst 0, 0, 0, 0), (8, 0, .bipush 16, 0, 0, 0), (10, 12, .invokestatic 374, 221, 3, 0), (13, 0, .iconst 1, 0, 0, 0), 
  (14, 12, .invokevirtual 266, 188, 3, 13), (17, 3, .ifCond .ne 5, 22, 0, 0), (20, 0, .iconst 0, 0, 0, 0), (21, 13, .ireturn, 0, 0, 0), 
  (22, 1, .iload_n 1, 0, 0, 0), (23, 4, .tableswitch 174 0 13 #[69, 74, 79, 84, 89, 96, 113, 119, 131, 142, 154, 159, 164, 169], 0, 0, 0), 
  (92, 1, .aload_n 0, 0, 0, 0), (93, 5, .getfield 273, 12, 3, 0), (96, 13, .ireturn, 0, 0, 0), (97, 1, .aload_n 0, 0, 0, 0), 
  (98, 5, .getfield 276, 12, 4, 0), (101, 13, .ireturn, 0, 0, 0), (102, 1, .aload_n 0, 0, 0, 0), (103, 5, .getfield 7, 12, 1, 0), 
  (106, 13, .ireturn, 0, 0, 0), (107, 1, .aload_n 0, 0, 0, 0), (108, 5, .getfield 13, 12, 2, 0), (111, 13, .ireturn, 0, 0, 0), 
  (112, 1, .aload_n 0, 0, 0, 0), (113, 5, .getfield 60, 12, 40, 0), (116, 0, .iconst 0, 0, 0, 0), (117, 7, .iaload, 0, 0, 0), 
  (118, 13, .ireturn, 0, 0, 0), (119, 0, .iconst 1, 0, 0, 0), (120, 1, .aload_n 0, 0, 0, 0), (121, 5, .getfield 276, 12, 4, 0), 
  (124, 0, .ishl, 0, 0, 0), (125, 0, .iconst 1, 0, 0, 0), (126, 0, .isub, 0, 0, 0), (127, 1, .aload_n 0, 0, 0, 0), (128, 0, .iconst 0, 0, 0, 0), 
  (129, 12, .invokevirtual 311, 222, 2, 13), (132, 0, .iconst (-1), 0, 0, 0), (133, 0, .ixor, 0, 0, 0), (134, 0, .iand, 0, 0, 0), 
  (135, 13, .ireturn, 0, 0, 0), (136, 1, .aload_n 0, 0, 0, 0), (137, 0, .iconst 0, 0, 0, 0), (138, 12, .invokevirtual 314, 224, 2, 13), 
  (141, 13, .ireturn, 0, 0, 0), (142, 1, .aload_n 0, 0, 0, 0), (143, 0, .iconst 0, 0, 0, 0), (144, 0, .bipush 39, 0, 0, 0), 
  (146, 1, .aload_n 0, 0, 0, 0), (147, 5, .getfield 276, 12, 4, 0), (150, 12, .invokevirtual 377, 225, 4, 13), (153, 13, .ireturn, 0, 0, 0), 
  (154, 1, .aload_n 0, 0, 0, 0), (155, 0, .iconst 0, 0, 0, 0), (156, 0, .iconst 1, 0, 0, 0), (157, 1, .aload_n 0, 0, 0, 0), 
  (158, 5, .getfield 273, 12, 3, 0), (161, 12, .invokevirtual 377, 225, 4, 13), (164, 13, .ireturn, 0, 0, 0), (165, 1, .aload_n 0, 0, 0, 0), 
  (166, 0, .iconst 0, 0, 0, 0), (167, 0, .bipush 8, 0, 0, 0), (169, 1, .aload_n 0, 0, 0, 0), (170, 5, .getfield 273, 12, 3, 0), 
  (173, 12, .invokevirtual 377, 225, 4, 13), (176, 13, .ireturn, 0, 0, 0), (177, 1, .aload_n 0, 0, 0, 0), (178, 12, .invokevirtual 380, 226, 1, 13), 
  (181, 13, .ireturn, 0, 0, 0), (182, 1, .aload_n 0, 0, 0, 0), (183, 5, .getfield 283, 12, 42, 0), (186, 13, .ireturn, 0, 0, 0), 
  (187, 1, .aload_n 0, 0, 0, 0), (188, 5, .getfield 286, 12, 53, 0), (191, 13, .ireturn, 0, 0, 0), (192, 1, .aload_n 0, 0, 0, 0), 
  (193, 5, .getfield 105, 12, 11, 0), (196, 13, .ireturn, 0, 0, 0), (197, 1, .aload_n 0, 0, 0, 0), (198, 5, .getfield 38, 12, 14, 0), 
  (201, 1, .iload_n 1, 0, 0, 0), (202, 0, .bipush 14, 0, 0, 0), (204, 0, .isub, 0, 0, 0), (205, 7, .iaload, 0, 0, 0), (206, 13, .ireturn, 0, 0, 0)]
/-- TemperDownsModel.within(III)Z -/
noncomputable def zk221 : List (Nat × zJ) := [
  (0, 1, .iload_n 0, 0, 0, 0), (1, 1, .iload_n 1, 0, 0, 0), (2, 3, .if_icmp .lt 12, 14, 0, 0), (5, 1, .iload_n 0, 0, 0, 0), 
  (6, 1, .iload_n 2, 0, 0, 0), (7, 3, .if_icmp .gt 7, 14, 0, 0), (10, 0, .iconst 1, 0, 0, 0), (11, 3, .goto 4, 15, 0, 0), (14, 0, .iconst 0, 0, 0, 0), 
  (15, 13, .ireturn, 0, 0, 0)]
/-- TemperDownsModel.heldOnes(I)I -/
noncomputable def zk222 : List (Nat × zJ) := [
  (0, 0, .iconst 0, 0, 0, 0), (1, 22, .istore_n 2, 0, 0, 0), (2, 0, .iconst 0, 0, 0, 0), (3, 22, .istore_n 3, 0, 0, 0), (4, 1, .iload_n 3, 0, 0, 0), 
  (5, 1, .aload_n 0, 0, 0, 0), (6, 5, .getfield 276, 12, 4, 0), (9, 3, .if_icmp .ge 28, 37, 0, 0), (12, 1, .iload_n 2, 0, 0, 0), 
  (13, 1, .aload_n 0, 0, 0, 0), (14, 1, .iload_n 1, 0, 0, 0), (15, 1, .iload_n 3, 0, 0, 0), (16, 12, .invokevirtual 303, 223, 3, 13), 
  (19, 3, .ifCond .eq 7, 26, 0, 0), (22, 0, .iconst 0, 0, 0, 0), (23, 3, .goto 6, 29, 0, 0), (26, 0, .iconst 1, 0, 0, 0), (27, 1, .iload_n 3, 0, 0, 0), 
  (28, 0, .ishl, 0, 0, 0), (29, 0, .ior, 0, 0, 0), (30, 22, .istore_n 2, 0, 0, 0), (31, 22, .iinc 3 1, 0, 0, 0), (34, 3, .goto (-30), 4, 0, 0), 
  (37, 1, .iload_n 2, 0, 0, 0), (38, 13, .ireturn, 0, 0, 0)]
/-- TemperDownsModel.isWhite(II)Z -/
noncomputable def zk223 : List (Nat × zJ) := [
  (0, 1, .aload_n 0, 0, 0, 0), (1, 5, .getfield 60, 12, 40, 0), (4, 1, .iload_n 1, 0, 0, 0), (5, 0, .bipush 39, 0, 0, 0), (7, 0, .iadd, 0, 0, 0), 
  (8, 1, .iload_n 2, 0, 0, 0), (9, 0, .iadd, 0, 0, 0), (10, 7, .iaload, 0, 0, 0), (11, 3, .ifCond .ne 7, 18, 0, 0), (14, 0, .iconst 1, 0, 0, 0), 
  (15, 3, .goto 4, 19, 0, 0), (18, 0, .iconst 0, 0, 0, 0), (19, 13, .ireturn, 0, 0, 0)]
/-- TemperDownsModel.guardedOnes(I)I -/
noncomputable def zk224 : List (Nat × zJ) := [
  (0, 0, .iconst 0, 0, 0, 0), (1, 22, .istore_n 2, 0, 0, 0), (2, 0, .iconst 0, 0, 0, 0), (3, 22, .istore_n 3, 0, 0, 0), (4, 1, .iload_n 3, 0, 0, 0), 
  (5, 1, .aload_n 0, 0, 0, 0), (6, 5, .getfield 276, 12, 4, 0), (9, 3, .if_icmp .ge 25, 34, 0, 0), (12, 1, .iload_n 2, 0, 0, 0), 
  (13, 1, .aload_n 0, 0, 0, 0), (14, 5, .getfield 60, 12, 40, 0), (17, 1, .iload_n 1, 0, 0, 0), (18, 0, .bipush 69, 0, 0, 0), (20, 0, .iadd, 0, 0, 0), 
  (21, 1, .iload_n 3, 0, 0, 0), (22, 0, .iadd, 0, 0, 0), (23, 7, .iaload, 0, 0, 0), (24, 1, .iload_n 3, 0, 0, 0), (25, 0, .ishl, 0, 0, 0), 
  (26, 0, .ior, 0, 0, 0), (27, 22, .istore_n 2, 0, 0, 0), (28, 22, .iinc 3 1, 0, 0, 0), (31, 3, .goto (-27), 4, 0, 0), (34, 1, .iload_n 2, 0, 0, 0), 
  (35, 13, .ireturn, 0, 0, 0)]
/-- TemperDownsModel.sumOf(III)I -/
noncomputable def zk225 : List (Nat × zJ) := [
  (0, 0, .iconst 0, 0, 0, 0), (1, 22, .istore 4, 0, 0, 0), (3, 0, .iconst 0, 0, 0, 0), (4, 22, .istore 5, 0, 0, 0), (6, 1, .iload 5, 0, 0, 0), 
  (8, 1, .iload_n 3, 0, 0, 0), (9, 3, .if_icmp .ge 25, 34, 0, 0), (12, 1, .iload 4, 0, 0, 0), (14, 1, .aload_n 0, 0, 0, 0), 
  (15, 5, .getfield 60, 12, 40, 0), (18, 1, .iload_n 1, 0, 0, 0), (19, 1, .iload_n 2, 0, 0, 0), (20, 0, .iadd, 0, 0, 0), (21, 1, .iload 5, 0, 0, 0), 
  (23, 0, .iadd, 0, 0, 0), (24, 7, .iaload, 0, 0, 0), (25, 0, .iadd, 0, 0, 0), (26, 22, .istore 4, 0, 0, 0), (28, 22, .iinc 5 1, 0, 0, 0), 
  (31, 3, .goto (-25), 6, 0, 0), (34, 1, .iload 4, 0, 0, 0), (36, 13, .ireturn, 0, 0, 0)]
/-- TemperDownsModel.allAtOnce()I -/
noncomputable def zk226 : List (Nat × zJ) := [
  (0, 1, .aload_n 0, 0, 0, 0), (1, 0, .iconst 0, 0, 0, 0), (2, 12, .invokevirtual 317, 227, 2, 13), (5, 22, .istore_n 1, 0, 0, 0), 
  (6, 0, .iconst (-1), 0, 0, 0), (7, 22, .istore_n 2, 0, 0, 0), (8, 0, .iconst 0, 0, 0, 0), (9, 22, .istore_n 3, 0, 0, 0), 
  (10, 1, .iload_n 3, 0, 0, 0), (11, 0, .iconst 1, 0, 0, 0), (12, 1, .aload_n 0, 0, 0, 0), (13, 5, .getfield 276, 12, 4, 0), (16, 0, .ishl, 0, 0, 0), 
  (17, 3, .if_icmp .ge 46, 63, 0, 0), (20, 1, .iload_n 3, 0, 0, 0), (21, 1, .iload_n 1, 0, 0, 0), (22, 0, .iconst (-1), 0, 0, 0), 
  (23, 0, .ixor, 0, 0, 0), (24, 0, .iand, 0, 0, 0), (25, 3, .ifCond .ne 32, 57, 0, 0), (28, 1, .iload_n 2, 0, 0, 0), (29, 0, .iconst (-1), 0, 0, 0), 
  (30, 3, .if_icmp .eq 14, 44, 0, 0), (33, 1, .iload_n 3, 0, 0, 0), (34, 12, .invokestatic 332, 228, 1, 0), (37, 1, .iload_n 2, 0, 0, 0), 
  (38, 12, .invokestatic 332, 228, 1, 0), (41, 3, .if_icmp .ge 16, 57, 0, 0), (44, 1, .aload_n 0, 0, 0, 0), (45, 0, .iconst 0, 0, 0, 0), 
  (46, 1, .iload_n 3, 0, 0, 0), (47, 1, .iload_n 1, 0, 0, 0), (48, 12, .invokevirtual 320, 229, 4, 13), (51, 1, .iload_n 1, 0, 0, 0), 
  (52, 3, .if_icmp .ne 5, 57, 0, 0), (55, 1, .iload_n 3, 0, 0, 0), (56, 22, .istore_n 2, 0, 0, 0), (57, 22, .iinc 3 1, 0, 0, 0), 
  (60, 3, .goto (-50), 10, 0, 0), (63, 1, .iload_n 2, 0, 0, 0), (64, 13, .ireturn, 0, 0, 0)]
/-- TemperDownsModel.free(I)I -/
noncomputable def zk227 : List (Nat × zJ) := [
  (0, 1, .aload_n 0, 0, 0, 0), (1, 1, .iload_n 1, 0, 0, 0), (2, 12, .invokevirtual 311, 222, 2, 13), (5, 1, .aload_n 0, 0, 0, 0), 
  (6, 1, .iload_n 1, 0, 0, 0), (7, 12, .invokevirtual 314, 224, 2, 13), (10, 0, .iconst (-1), 0, 0, 0), (11, 0, .ixor, 0, 0, 0), 
  (12, 0, .iand, 0, 0, 0), (13, 13, .ireturn, 0, 0, 0)]
/-- TemperDownsModel.bits(I)I -/
noncomputable def zk228 : List (Nat × zJ) := [
  (0, 0, .iconst 0, 0, 0, 0), (1, 22, .istore_n 1, 0, 0, 0), (2, 0, .iconst 0, 0, 0, 0), (3, 22, .istore_n 2, 0, 0, 0), (4, 1, .iload_n 2, 0, 0, 0), 
  (5, 0, .bipush 10, 0, 0, 0), (7, 3, .if_icmp .ge 17, 24, 0, 0), (10, 1, .iload_n 1, 0, 0, 0), (11, 1, .iload_n 0, 0, 0, 0), 
  (12, 1, .iload_n 2, 0, 0, 0), (13, 0, .ishr, 0, 0, 0), (14, 0, .iconst 1, 0, 0, 0), (15, 0, .iand, 0, 0, 0), (16, 0, .iadd, 0, 0, 0), 
  (17, 22, .istore_n 1, 0, 0, 0), (18, 22, .iinc 2 1, 0, 0, 0), (21, 3, .goto (-17), 4, 0, 0), (24, 1, .iload_n 1, 0, 0, 0), 
  (25, 13, .ireturn, 0, 0, 0)]
/-- TemperDownsModel.setOff(III)I -/
noncomputable def zk229 : List (Nat × zJ) := [
  (0, 1, .iload_n 2, 0, 0, 0), (1, 22, .istore 4, 0, 0, 0), (3, 0, .iconst 1, 0, 0, 0), (4, 22, .istore 5, 0, 0, 0), (6, 1, .iload 5, 0, 0, 0), 
  (8, 3, .ifCond .eq 113, 121, 0, 0), (11, 0, .iconst 0, 0, 0, 0), (12, 22, .istore 5, 0, 0, 0), (14, 0, .iconst 0, 0, 0, 0), 
  (15, 22, .istore 6, 0, 0, 0), (17, 1, .iload 6, 0, 0, 0), (19, 1, .aload_n 0, 0, 0, 0), (20, 5, .getfield 276, 12, 4, 0), 
  (23, 3, .if_icmp .ge 95, 118, 0, 0), (26, 0, .iconst 0, 0, 0, 0), (27, 22, .istore 7, 0, 0, 0), (29, 1, .iload 7, 0, 0, 0), 
  (31, 1, .aload_n 0, 0, 0, 0), (32, 5, .getfield 276, 12, 4, 0), (35, 3, .if_icmp .ge 77, 112, 0, 0), (38, 1, .iload 4, 0, 0, 0), 
  (40, 1, .iload 6, 0, 0, 0), (42, 0, .ishr, 0, 0, 0), (43, 0, .iconst 1, 0, 0, 0), (44, 0, .iand, 0, 0, 0), (45, 0, .iconst 1, 0, 0, 0), 
  (46, 3, .if_icmp .ne 66, 112, 0, 0), (49, 1, .iload 4, 0, 0, 0), (51, 1, .iload 7, 0, 0, 0), (53, 0, .ishr, 0, 0, 0), (54, 0, .iconst 1, 0, 0, 0), 
  (55, 0, .iand, 0, 0, 0), (56, 0, .iconst 1, 0, 0, 0), (57, 3, .if_icmp .eq 49, 106, 0, 0), (60, 1, .iload_n 3, 0, 0, 0), (61, 1, .iload 7, 0, 0, 0), 
  (63, 0, .ishr, 0, 0, 0), (64, 0, .iconst 1, 0, 0, 0), (65, 0, .iand, 0, 0, 0), (66, 3, .ifCond .eq 40, 106, 0, 0), (69, 1, .aload_n 0, 0, 0, 0), 
  (70, 1, .iload_n 1, 0, 0, 0), (71, 1, .iload 6, 0, 0, 0), (73, 1, .aload_n 0, 0, 0, 0), (74, 5, .getfield 60, 12, 40, 0), 
  (77, 1, .iload_n 1, 0, 0, 0), (78, 0, .bipush 29, 0, 0, 0), (80, 0, .iadd, 0, 0, 0), (81, 1, .iload 7, 0, 0, 0), (83, 0, .iadd, 0, 0, 0), 
  (84, 7, .iaload, 0, 0, 0), (85, 12, .invokevirtual 307, 230, 4, 13), (88, 3, .ifCond .ne 6, 94, 0, 0), (91, 3, .goto 15, 106, 0, 0), 
  (94, 1, .iload 4, 0, 0, 0), (96, 0, .iconst 1, 0, 0, 0), (97, 1, .iload 7, 0, 0, 0), (99, 0, .ishl, 0, 0, 0), (100, 0, .ior, 0, 0, 0), 
  (101, 22, .istore 4, 0, 0, 0), (103, 0, .iconst 1, 0, 0, 0), (104, 22, .istore 5, 0, 0, 0), (106, 22, .iinc 7 1, 0, 0, 0), 
  (109, 3, .goto (-80), 29, 0, 0), (112, 22, .iinc 6 1, 0, 0, 0), (115, 3, .goto (-98), 17, 0, 0), (118, 3, .goto (-112), 6, 0, 0), 
  (121, 1, .iload 4, 0, 0, 0), (123, 13, .ireturn, 0, 0, 0)]
/-- TemperDownsModel.isIn(III)Z -/
noncomputable def zk230 : List (Nat × zJ) := [
  (0, 1, .aload_n 0, 0, 0, 0), (1, 1, .aload_n 0, 0, 0, 0), (2, 5, .getfield 60, 12, 40, 0), (5, 1, .iload_n 1, 0, 0, 0), (6, 0, .bipush 29, 0, 0, 0), 
  (8, 0, .iadd, 0, 0, 0), (9, 1, .iload_n 2, 0, 0, 0), (10, 0, .iadd, 0, 0, 0), (11, 7, .iaload, 0, 0, 0), (12, 1, .iload_n 3, 0, 0, 0), 
  (13, 12, .invokevirtual 300, 231, 3, 13), (16, 1, .aload_n 0, 0, 0, 0), (17, 5, .getfield 60, 12, 40, 0), (20, 1, .iload_n 1, 0, 0, 0), 
  (21, 0, .bipush 39, 0, 0, 0), (23, 0, .iadd, 0, 0, 0), (24, 1, .iload_n 2, 0, 0, 0), (25, 0, .iadd, 0, 0, 0), (26, 7, .iaload, 0, 0, 0), 
  (27, 0, .bipush 10, 0, 0, 0), (29, 0, .idiv, 0, 0, 0), (30, 3, .if_icmp .gt 7, 37, 0, 0), (33, 0, .iconst 1, 0, 0, 0), (34, 3, .goto 4, 38, 0, 0), 
  (37, 0, .iconst 0, 0, 0, 0), (38, 13, .ireturn, 0, 0, 0)]
/-- TemperDownsModel.farOf(II)I -/
noncomputable def zk231 : List (Nat × zJ) := [
  (0, 1, .iload_n 1, 0, 0, 0), (1, 1, .aload_n 0, 0, 0, 0), (2, 5, .getfield 7, 12, 1, 0), (5, 0, .irem, 0, 0, 0), (6, 1, .iload_n 2, 0, 0, 0), 
  (7, 1, .aload_n 0, 0, 0, 0), (8, 5, .getfield 7, 12, 1, 0), (11, 0, .irem, 0, 0, 0), (12, 12, .invokestatic 297, 232, 2, 0), 
  (15, 1, .iload_n 1, 0, 0, 0), (16, 1, .aload_n 0, 0, 0, 0), (17, 5, .getfield 7, 12, 1, 0), (20, 0, .idiv, 0, 0, 0), (21, 1, .iload_n 2, 0, 0, 0), 
  (22, 1, .aload_n 0, 0, 0, 0), (23, 5, .getfield 7, 12, 1, 0), (26, 0, .idiv, 0, 0, 0), (27, 12, .invokestatic 297, 232, 2, 0), 
  (30, 0, .iadd, 0, 0, 0), (31, 13, .ireturn, 0, 0, 0)]
/-- TemperDownsModel.apart(II)I -/
noncomputable def zk232 : List (Nat × zJ) := [
  (0, 1, .iload_n 0, 0, 0, 0), (1, 1, .iload_n 1, 0, 0, 0), (2, 3, .if_icmp .ge 9, 11, 0, 0), (5, 1, .iload_n 1, 0, 0, 0), (6, 1, .iload_n 0, 0, 0, 0), 
  (7, 0, .isub, 0, 0, 0), (8, 3, .goto 6, 14, 0, 0), (11, 1, .iload_n 0, 0, 0, 0), (12, 1, .iload_n 1, 0, 0, 0), (13, 0, .isub, 0, 0, 0), 
  (14, 13, .ireturn, 0, 0, 0)]
/-- TemperDownsModel.person(II)I -/
noncomputable def zk233 : List (Nat × zJ) := [
  (0, 1, .aload_n 0, 0, 0, 0), (1, 0, .iconst 0, 0, 0, 0), (2, 6, .putfield 102, 12, 0, 0), (5, 1, .aload_n 0, 0, 0, 0), (6, 1, .iload_n 1, 0, 0, 0), 
  (7, 12, .invokevirtual 383, 234, 2, 13), (10, 3, .ifCond .eq 13, 23, 0, 0), (13, 1, .aload_n 0, 0, 0, 0), (14, 1, .iload_n 2, 0, 0, 0), 
  (15, 0, .bipush 6, 0, 0, 0), (17, 12, .invokevirtual 386, 235, 3, 13), (20, 3, .ifCond .ne 5, 25, 0, 0), (23, 0, .iconst 0, 0, 0, 0), 
  (24, 13, .ireturn, 0, 0, 0), (25, 1, .iload_n 2, 0, 0, 0), (26, 4, .tableswitch 91 0 5 #[38, 45, 55, 64, 74, 84], 0, 0, 0), 
  (64, 1, .aload_n 0, 0, 0, 0), (65, 5, .getfield 22, 12, 7, 0), (68, 1, .iload_n 1, 0, 0, 0), (69, 7, .iaload, 0, 0, 0), (70, 13, .ireturn, 0, 0, 0), 
  (71, 1, .aload_n 0, 0, 0, 0), (72, 5, .getfield 60, 12, 40, 0), (75, 0, .bipush 22, 0, 0, 0), (77, 1, .iload_n 1, 0, 0, 0), (78, 0, .iadd, 0, 0, 0), 
  (79, 7, .iaload, 0, 0, 0), (80, 13, .ireturn, 0, 0, 0), (81, 1, .aload_n 0, 0, 0, 0), (82, 5, .getfield 60, 12, 40, 0), (85, 0, .iconst 1, 0, 0, 0), 
  (86, 1, .iload_n 1, 0, 0, 0), (87, 0, .iadd, 0, 0, 0), (88, 7, .iaload, 0, 0, 0), (89, 13, .ireturn, 0, 0, 0), (90, 1, .aload_n 0, 0, 0, 0), 
  (91, 5, .getfield 60, 12, 40, 0), (94, 0, .bipush 8, 0, 0, 0), (96, 1, .iload_n 1, 0, 0, 0), (97, 0, .iadd, 0, 0, 0), (98, 7, .iaload, 0, 0, 0), 
  (99, 13, .ireturn, 0, 0, 0), (100, 1, .aload_n 0, 0, 0, 0), (101, 5, .getfield 60, 12, 40, 0), (104, 0, .bipush 15, 0, 0, 0), 
  (106, 1, .iload_n 1, 0, 0, 0), (107, 0, .iadd, 0, 0, 0), (108, 7, .iaload, 0, 0, 0), (109, 13, .ireturn, 0, 0, 0), (110, 1, .aload_n 0, 0, 0, 0), 
  (111, 0, .iconst 0, 0, 0, 0), (112, 1, .iload_n 1, 0, 0, 0), (113, 12, .invokevirtual 389, 236, 3, 13), (116, 13, .ireturn, 0, 0, 0), 
  (117, 1, .aload_n 0, 0, 0, 0), (118, 0, .iconst 0, 0, 0, 0), (119, 1, .iload_n 1, 0, 0, 0), (120, 12, .invokevirtual 335, 237, 3, 13), 
  (123, 13, .ireturn, 0, 0, 0)]
/-- TemperDownsModel.isPerson(I)Z -/
noncomputable def zk234 : List (Nat × zJ) := [
  (0, 1, .aload_n 0, 0, 0, 0), (1, 1, .iload_n 1, 0, 0, 0), (2, 3, .ifCond .lt 15, 17, 0, 0), (5, 1, .iload_n 1, 0, 0, 0), (6, 1, .aload_n 0, 0, 0, 0), 
  (7, 5, .getfield 273, 12, 3, 0), (10, 3, .if_icmp .ge 7, 17, 0, 0), (13, 0, .iconst 1, 0, 0, 0), (14, 3, .goto 4, 18, 0, 0), 
  (17, 0, .iconst 0, 0, 0, 0), (18, 0, .iconst 1, 0, 0, 0), (19, 12, .invokevirtual 266, 188, 3, 13), (22, 13, .ireturn, 0, 0, 0)]
/-- TemperDownsModel.isWhat(II)Z -/
noncomputable def zk235 : List (Nat × zJ) := [
  (0, 1, .aload_n 0, 0, 0, 0), (1, 1, .iload_n 1, 0, 0, 0), (2, 0, .iconst 0, 0, 0, 0), (3, 1, .iload_n 2, 0, 0, 0), 
  (4, 12, .invokestatic 374, 221, 3, 0), (7, 0, .iconst 1, 0, 0, 0), (8, 12, .invokevirtual 266, 188, 3, 13), (11, 13, .ireturn, 0, 0, 0)]
/-- TemperDownsModel.ownOnes(II)I -/
noncomputable def zk236 : List (Nat × zJ) := [
  (0, 0, .iconst 0, 0, 0, 0), (1, 22, .istore_n 3, 0, 0, 0), (2, 0, .iconst 0, 0, 0, 0), (3, 22, .istore 4, 0, 0, 0), (5, 1, .iload 4, 0, 0, 0), 
  (7, 1, .aload_n 0, 0, 0, 0), (8, 5, .getfield 276, 12, 4, 0), (11, 3, .if_icmp .ge 36, 47, 0, 0), (14, 1, .iload_n 3, 0, 0, 0), 
  (15, 1, .aload_n 0, 0, 0, 0), (16, 5, .getfield 60, 12, 40, 0), (19, 1, .iload_n 1, 0, 0, 0), (20, 0, .bipush 59, 0, 0, 0), (22, 0, .iadd, 0, 0, 0), 
  (23, 1, .iload 4, 0, 0, 0), (25, 0, .iadd, 0, 0, 0), (26, 7, .iaload, 0, 0, 0), (27, 1, .iload_n 2, 0, 0, 0), (28, 3, .if_icmp .ne 10, 38, 0, 0), 
  (31, 0, .iconst 1, 0, 0, 0), (32, 1, .iload 4, 0, 0, 0), (34, 0, .ishl, 0, 0, 0), (35, 3, .goto 4, 39, 0, 0), (38, 0, .iconst 0, 0, 0, 0), 
  (39, 0, .ior, 0, 0, 0), (40, 22, .istore_n 3, 0, 0, 0), (41, 22, .iinc 4 1, 0, 0, 0), (44, 3, .goto (-39), 5, 0, 0), (47, 1, .iload_n 3, 0, 0, 0), 
  (48, 13, .ireturn, 0, 0, 0)]
/-- TemperDownsModel.ballFor(II)I -/
noncomputable def zk237 : List (Nat × zJ) := [
  (0, 0, .iconst (-1), 0, 0, 0), (1, 22, .istore_n 3, 0, 0, 0), (2, 0, .iconst 0, 0, 0, 0), (3, 22, .istore 4, 0, 0, 0), (5, 1, .iload 4, 0, 0, 0), 
  (7, 1, .aload_n 0, 0, 0, 0), (8, 5, .getfield 276, 12, 4, 0), (11, 3, .if_icmp .ge 96, 107, 0, 0), (14, 1, .aload_n 0, 0, 0, 0), 
  (15, 1, .iload_n 1, 0, 0, 0), (16, 1, .iload 4, 0, 0, 0), (18, 12, .invokevirtual 303, 223, 3, 13), (21, 3, .ifCond .eq 80, 101, 0, 0), 
  (24, 1, .aload_n 0, 0, 0, 0), (25, 5, .getfield 26, 12, 8, 0), (28, 1, .iload 4, 0, 0, 0), (30, 7, .iaload, 0, 0, 0), (31, 1, .aload_n 0, 0, 0, 0), 
  (32, 5, .getfield 60, 12, 40, 0), (35, 1, .iload_n 1, 0, 0, 0), (36, 0, .iconst 1, 0, 0, 0), (37, 0, .iadd, 0, 0, 0), (38, 1, .iload_n 2, 0, 0, 0), 
  (39, 0, .iadd, 0, 0, 0), (40, 7, .iaload, 0, 0, 0), (41, 3, .if_icmp .ge 6, 47, 0, 0), (44, 3, .goto 57, 101, 0, 0), (47, 1, .iload_n 3, 0, 0, 0), 
  (48, 0, .iconst (-1), 0, 0, 0), (49, 3, .if_icmp .eq 49, 98, 0, 0), (52, 1, .aload_n 0, 0, 0, 0), (53, 1, .aload_n 0, 0, 0, 0), 
  (54, 5, .getfield 60, 12, 40, 0), (57, 1, .iload_n 1, 0, 0, 0), (58, 0, .bipush 29, 0, 0, 0), (60, 0, .iadd, 0, 0, 0), (61, 1, .iload 4, 0, 0, 0), 
  (63, 0, .iadd, 0, 0, 0), (64, 7, .iaload, 0, 0, 0), (65, 1, .aload_n 0, 0, 0, 0), (66, 5, .getfield 22, 12, 7, 0), (69, 1, .iload_n 2, 0, 0, 0), 
  (70, 7, .iaload, 0, 0, 0), (71, 12, .invokevirtual 300, 231, 3, 13), (74, 1, .aload_n 0, 0, 0, 0), (75, 1, .aload_n 0, 0, 0, 0), 
  (76, 5, .getfield 60, 12, 40, 0), (79, 1, .iload_n 1, 0, 0, 0), (80, 0, .bipush 29, 0, 0, 0), (82, 0, .iadd, 0, 0, 0), (83, 1, .iload_n 3, 0, 0, 0), 
  (84, 0, .iadd, 0, 0, 0), (85, 7, .iaload, 0, 0, 0), (86, 1, .aload_n 0, 0, 0, 0), (87, 5, .getfield 22, 12, 7, 0), (90, 1, .iload_n 2, 0, 0, 0), 
  (91, 7, .iaload, 0, 0, 0), (92, 12, .invokevirtual 300, 231, 3, 13), (95, 3, .if_icmp .ge 6, 101, 0, 0), (98, 1, .iload 4, 0, 0, 0), 
  (100, 22, .istore_n 3, 0, 0, 0), (101, 22, .iinc 4 1, 0, 0, 0), (104, 3, .goto (-99), 5, 0, 0), (107, 1, .iload_n 3, 0, 0, 0), 
  (108, 13, .ireturn, 0, 0, 0)]
/-- TemperDownsModel.ball(II)I -/
noncomputable def zk238 : List (Nat × zJ) := [
  (0, 1, .aload_n 0, 0, 0, 0), (1, 0, .iconst 0, 0, 0, 0), (2, 6, .putfield 102, 12, 0, 0), (5, 1, .aload_n 0, 0, 0, 0), (6, 1, .iload_n 1, 0, 0, 0), 
  (7, 12, .invokevirtual 392, 239, 2, 13), (10, 3, .ifCond .eq 13, 23, 0, 0), (13, 1, .aload_n 0, 0, 0, 0), (14, 1, .iload_n 2, 0, 0, 0), 
  (15, 0, .bipush 7, 0, 0, 0), (17, 12, .invokevirtual 386, 235, 3, 13), (20, 3, .ifCond .ne 5, 25, 0, 0), (23, 0, .iconst 0, 0, 0, 0), 
  (24, 13, .ireturn, 0, 0, 0), (25, 1, .iload_n 2, 0, 0, 0), (26, 4, .tableswitch 105 0 6 #[42, 52, 59, 69, 79, 89, 99], 0, 0, 0), 
  (68, 1, .aload_n 0, 0, 0, 0), (69, 5, .getfield 60, 12, 40, 0), (72, 0, .bipush 29, 0, 0, 0), (74, 1, .iload_n 1, 0, 0, 0), (75, 0, .iadd, 0, 0, 0), 
  (76, 7, .iaload, 0, 0, 0), (77, 13, .ireturn, 0, 0, 0), (78, 1, .aload_n 0, 0, 0, 0), (79, 5, .getfield 26, 12, 8, 0), (82, 1, .iload_n 1, 0, 0, 0), 
  (83, 7, .iaload, 0, 0, 0), (84, 13, .ireturn, 0, 0, 0), (85, 1, .aload_n 0, 0, 0, 0), (86, 5, .getfield 60, 12, 40, 0), (89, 0, .bipush 39, 0, 0, 0), 
  (91, 1, .iload_n 1, 0, 0, 0), (92, 0, .iadd, 0, 0, 0), (93, 7, .iaload, 0, 0, 0), (94, 13, .ireturn, 0, 0, 0), (95, 1, .aload_n 0, 0, 0, 0), 
  (96, 5, .getfield 60, 12, 40, 0), (99, 0, .bipush 49, 0, 0, 0), (101, 1, .iload_n 1, 0, 0, 0), (102, 0, .iadd, 0, 0, 0), (103, 7, .iaload, 0, 0, 0), 
  (104, 13, .ireturn, 0, 0, 0), (105, 1, .aload_n 0, 0, 0, 0), (106, 5, .getfield 60, 12, 40, 0), (109, 0, .bipush 59, 0, 0, 0), 
  (111, 1, .iload_n 1, 0, 0, 0), (112, 0, .iadd, 0, 0, 0), (113, 7, .iaload, 0, 0, 0), (114, 13, .ireturn, 0, 0, 0), (115, 1, .aload_n 0, 0, 0, 0), 
  (116, 5, .getfield 60, 12, 40, 0), (119, 0, .bipush 69, 0, 0, 0), (121, 1, .iload_n 1, 0, 0, 0), (122, 0, .iadd, 0, 0, 0), 
  (123, 7, .iaload, 0, 0, 0), (124, 13, .ireturn, 0, 0, 0), (125, 1, .aload_n 0, 0, 0, 0), (126, 1, .iload_n 1, 0, 0, 0), 
  (127, 12, .invokevirtual 395, 240, 2, 13), (130, 13, .ireturn, 0, 0, 0), (131, 1, .aload_n 0, 0, 0, 0), (132, 1, .aload_n 0, 0, 0, 0), 
  (133, 1, .iload_n 1, 0, 0, 0), (134, 12, .invokevirtual 395, 240, 2, 13), (137, 12, .invokevirtual 398, 241, 2, 13), (140, 13, .ireturn, 0, 0, 0)]
/-- TemperDownsModel.isBall(I)Z -/
noncomputable def zk239 : List (Nat × zJ) := [
  (0, 1, .aload_n 0, 0, 0, 0), (1, 1, .iload_n 1, 0, 0, 0), (2, 3, .ifCond .lt 15, 17, 0, 0), (5, 1, .iload_n 1, 0, 0, 0), (6, 1, .aload_n 0, 0, 0, 0), 
  (7, 5, .getfield 276, 12, 4, 0), (10, 3, .if_icmp .ge 7, 17, 0, 0), (13, 0, .iconst 1, 0, 0, 0), (14, 3, .goto 4, 18, 0, 0), 
  (17, 0, .iconst 0, 0, 0, 0), (18, 0, .iconst 1, 0, 0, 0), (19, 12, .invokevirtual 266, 188, 3, 13), (22, 13, .ireturn, 0, 0, 0)]
/-- TemperDownsModel.setOffBy(I)I -/
noncomputable def zk240 : List (Nat × zJ) := [
  (0, 1, .aload_n 0, 0, 0, 0), (1, 0, .iconst 0, 0, 0, 0), (2, 1, .iload_n 1, 0, 0, 0), (3, 12, .invokevirtual 303, 223, 3, 13), 
  (6, 3, .ifCond .eq 7, 13, 0, 0), (9, 0, .iconst 0, 0, 0, 0), (10, 3, .goto 16, 26, 0, 0), (13, 1, .aload_n 0, 0, 0, 0), (14, 0, .iconst 0, 0, 0, 0), 
  (15, 0, .iconst 1, 0, 0, 0), (16, 1, .iload_n 1, 0, 0, 0), (17, 0, .ishl, 0, 0, 0), (18, 1, .aload_n 0, 0, 0, 0), (19, 0, .iconst 0, 0, 0, 0), 
  (20, 12, .invokevirtual 317, 227, 2, 13), (23, 12, .invokevirtual 320, 229, 4, 13), (26, 13, .ireturn, 0, 0, 0)]
/-- TemperDownsModel.hearers(I)I -/
noncomputable def zk241 : List (Nat × zJ) := [
  (0, 0, .iconst 0, 0, 0, 0), (1, 22, .istore_n 2, 0, 0, 0), (2, 0, .iconst 0, 0, 0, 0), (3, 22, .istore_n 3, 0, 0, 0), (4, 1, .iload_n 3, 0, 0, 0), 
  (5, 1, .aload_n 0, 0, 0, 0), (6, 5, .getfield 273, 12, 3, 0), (9, 3, .if_icmp .ge 63, 72, 0, 0), (12, 0, .iconst 0, 0, 0, 0), 
  (13, 22, .istore 4, 0, 0, 0), (15, 1, .iload 4, 0, 0, 0), (17, 1, .aload_n 0, 0, 0, 0), (18, 5, .getfield 276, 12, 4, 0), 
  (21, 3, .if_icmp .ge 45, 66, 0, 0), (24, 1, .iload_n 2, 0, 0, 0), (25, 1, .iload_n 1, 0, 0, 0), (26, 1, .iload 4, 0, 0, 0), (28, 0, .ishr, 0, 0, 0), 
  (29, 0, .iconst 1, 0, 0, 0), (30, 0, .iand, 0, 0, 0), (31, 0, .iconst 1, 0, 0, 0), (32, 3, .if_icmp .ne 25, 57, 0, 0), (35, 1, .aload_n 0, 0, 0, 0), 
  (36, 0, .iconst 0, 0, 0, 0), (37, 1, .iload 4, 0, 0, 0), (39, 1, .aload_n 0, 0, 0, 0), (40, 5, .getfield 22, 12, 7, 0), (43, 1, .iload_n 3, 0, 0, 0), 
  (44, 7, .iaload, 0, 0, 0), (45, 12, .invokevirtual 307, 230, 4, 13), (48, 3, .ifCond .eq 9, 57, 0, 0), (51, 0, .iconst 1, 0, 0, 0), 
  (52, 1, .iload_n 3, 0, 0, 0), (53, 0, .ishl, 0, 0, 0), (54, 3, .goto 4, 58, 0, 0), (57, 0, .iconst 0, 0, 0, 0), (58, 0, .ior, 0, 0, 0), 
  (59, 22, .istore_n 2, 0, 0, 0), (60, 22, .iinc 4 1, 0, 0, 0), (63, 3, .goto (-48), 15, 0, 0), (66, 22, .iinc 3 1, 0, 0, 0), 
  (69, 3, .goto (-65), 4, 0, 0), (72, 1, .iload_n 2, 0, 0, 0), (73, 13, .ireturn, 0, 0, 0)]
/-- TemperDownsModel.days(I)I -/
noncomputable def zk242 : List (Nat × zJ) := [
  (0, 1, .aload_n 0, 0, 0, 0), (1, 0, .iconst 0, 0, 0, 0), (2, 6, .putfield 102, 12, 0, 0), (5, 1, .iload_n 1, 0, 0, 0), (6, 0, .iconst 1, 0, 0, 0), 
  (7, 0, .bipush 20, 0, 0, 0), (9, 12, .invokestatic 374, 221, 3, 0), (12, 3, .ifCond .eq 17, 29, 0, 0), (15, 1, .aload_n 0, 0, 0, 0), 
  (16, 5, .getfield 60, 12, 40, 0), (19, 0, .iconst 0, 0, 0, 0), (20, 7, .iaload, 0, 0, 0), (21, 1, .iload_n 1, 0, 0, 0), (22, 0, .iadd, 0, 0, 0), 
  (23, 0, .sipush 9999, 0, 0, 0), (26, 3, .if_icmp .le 9, 35, 0, 0), (29, 1, .aload_n 0, 0, 0, 0), (30, 0, .iconst 1, 0, 0, 0), 
  (31, 12, .invokevirtual 401, 243, 2, 13), (34, 13, .ireturn, 0, 0, 0), (35, 1, .aload_n 0, 0, 0, 0), (36, 12, .invokevirtual 404, 244, 1, 13), 
  (39, 0, .iconst 0, 0, 0, 0), (40, 22, .istore_n 2, 0, 0, 0), (41, 1, .iload_n 2, 0, 0, 0), (42, 1, .iload_n 1, 0, 0, 0), 
  (43, 3, .if_icmp .ge 14, 57, 0, 0), (46, 1, .aload_n 0, 0, 0, 0), (47, 0, .iconst 0, 0, 0, 0), (48, 12, .invokevirtual 371, 245, 2, 13), 
  (51, 22, .iinc 2 1, 0, 0, 0), (54, 3, .goto (-13), 41, 0, 0), (57, 1, .aload_n 0, 0, 0, 0), (58, 5, .getfield 60, 12, 40, 0), 
  (61, 0, .iconst 0, 0, 0, 0), (62, 7, .iaload, 0, 0, 0), (63, 13, .ireturn, 0, 0, 0)]
/-- TemperDownsModel.refuses(I)I -/
noncomputable def zk243 : List (Nat × zJ) := [
  (0, 1, .aload_n 0, 0, 0, 0), (1, 5, .getfield 38, 12, 14, 0), (4, 1, .iload_n 1, 0, 0, 0), (5, 0, .dup2, 0, 0, 0), (6, 7, .iaload, 0, 0, 0), 
  (7, 0, .iconst 1, 0, 0, 0), (8, 0, .iadd, 0, 0, 0), (9, 8, .iastore, 0, 0, 0), (10, 0, .iconst (-1), 0, 0, 0), (11, 13, .ireturn, 0, 0, 0)]
/-- TemperDownsModel.keeps()V -/
noncomputable def zk244 : List (Nat × zJ) := [
  (0, 1, .aload_n 0, 0, 0, 0), (1, 5, .getfield 283, 12, 42, 0), (4, 0, .bipush 40, 0, 0, 0), (6, 3, .if_icmp .ne 44, 50, 0, 0), 
  (9, 0, .bipush 79, 0, 0, 0), (11, 22, .istore_n 1, 0, 0, 0), (12, 1, .iload_n 1, 0, 0, 0), (13, 0, .sipush 3160, 0, 0, 0), 
  (16, 3, .if_icmp .ge 24, 40, 0, 0), (19, 1, .aload_n 0, 0, 0, 0), (20, 5, .getfield 63, 12, 41, 0), (23, 1, .iload_n 1, 0, 0, 0), 
  (24, 0, .bipush 79, 0, 0, 0), (26, 0, .isub, 0, 0, 0), (27, 1, .aload_n 0, 0, 0, 0), (28, 5, .getfield 63, 12, 41, 0), (31, 1, .iload_n 1, 0, 0, 0), 
  (32, 7, .iaload, 0, 0, 0), (33, 8, .iastore, 0, 0, 0), (34, 22, .iinc 1 1, 0, 0, 0), (37, 3, .goto (-25), 12, 0, 0), (40, 1, .aload_n 0, 0, 0, 0), 
  (41, 0, .dup, 0, 0, 0), (42, 5, .getfield 283, 12, 42, 0), (45, 0, .iconst 1, 0, 0, 0), (46, 0, .isub, 0, 0, 0), (47, 6, .putfield 283, 12, 42, 0), 
  (50, 0, .iconst 0, 0, 0, 0), (51, 22, .istore_n 1, 0, 0, 0), (52, 1, .iload_n 1, 0, 0, 0), (53, 0, .bipush 79, 0, 0, 0), 
  (55, 3, .if_icmp .ge 29, 84, 0, 0), (58, 1, .aload_n 0, 0, 0, 0), (59, 5, .getfield 63, 12, 41, 0), (62, 0, .bipush 79, 0, 0, 0), 
  (64, 1, .aload_n 0, 0, 0, 0), (65, 5, .getfield 283, 12, 42, 0), (68, 0, .imul, 0, 0, 0), (69, 1, .iload_n 1, 0, 0, 0), (70, 0, .iadd, 0, 0, 0), 
  (71, 1, .aload_n 0, 0, 0, 0), (72, 5, .getfield 60, 12, 40, 0), (75, 1, .iload_n 1, 0, 0, 0), (76, 7, .iaload, 0, 0, 0), (77, 8, .iastore, 0, 0, 0), 
  (78, 22, .iinc 1 1, 0, 0, 0), (81, 3, .goto (-29), 52, 0, 0), (84, 1, .aload_n 0, 0, 0, 0), (85, 0, .dup, 0, 0, 0), 
  (86, 5, .getfield 283, 12, 42, 0), (89, 0, .iconst 1, 0, 0, 0), (90, 0, .iadd, 0, 0, 0), (91, 6, .putfield 283, 12, 42, 0), 
  (94, 13, .return_, 0, 0, 0)]
/-- TemperDownsModel.dayOf(I)V -/
noncomputable def zk245 : List (Nat × zJ) := [
  (0, 1, .aload_n 0, 0, 0, 0), (1, 12, .invokevirtual 365, 246, 1, 13), (4, 1, .aload_n 0, 0, 0, 0), (5, 1, .iload_n 1, 0, 0, 0), 
  (6, 12, .invokevirtual 368, 247, 2, 13), (9, 13, .return_, 0, 0, 0)]
/-- TemperDownsModel.begins0()V -/
noncomputable def zk246 : List (Nat × zJ) := [
  (0, 1, .aload_n 0, 0, 0, 0), (1, 0, .iconst 0, 0, 0, 0), (2, 6, .putfield 326, 12, 45, 0), (5, 1, .aload_n 0, 0, 0, 0), (6, 0, .iconst 0, 0, 0, 0), 
  (7, 6, .putfield 329, 12, 46, 0), (10, 1, .aload_n 0, 0, 0, 0), (11, 0, .iconst 0, 0, 0, 0), (12, 6, .putfield 350, 12, 47, 0), 
  (15, 1, .aload_n 0, 0, 0, 0), (16, 0, .iconst 0, 0, 0, 0), (17, 6, .putfield 353, 12, 48, 0), (20, 13, .return_, 0, 0, 0)]
/-- TemperDownsModel.dayGoes(I)V -/
noncomputable def zk247 : List (Nat × zJ) := [
  (0, 0, .iconst 0, 0, 0, 0), (1, 22, .istore_n 2, 0, 0, 0), (2, 1, .iload_n 2, 0, 0, 0), (3, 1, .aload_n 0, 0, 0, 0), (4, 5, .getfield 273, 12, 3, 0), 
  (7, 3, .if_icmp .ge 15, 22, 0, 0), (10, 1, .aload_n 0, 0, 0, 0), (11, 1, .iload_n 1, 0, 0, 0), (12, 1, .iload_n 2, 0, 0, 0), 
  (13, 12, .invokevirtual 356, 248, 3, 13), (16, 22, .iinc 2 1, 0, 0, 0), (19, 3, .goto (-17), 2, 0, 0), (22, 1, .aload_n 0, 0, 0, 0), 
  (23, 1, .iload_n 1, 0, 0, 0), (24, 12, .invokevirtual 311, 222, 2, 13), (27, 22, .istore_n 2, 0, 0, 0), (28, 0, .iconst 0, 0, 0, 0), 
  (29, 22, .istore_n 3, 0, 0, 0), (30, 1, .iload_n 3, 0, 0, 0), (31, 1, .aload_n 0, 0, 0, 0), (32, 5, .getfield 276, 12, 4, 0), 
  (35, 3, .if_icmp .ge 28, 63, 0, 0), (38, 1, .aload_n 0, 0, 0, 0), (39, 5, .getfield 60, 12, 40, 0), (42, 1, .iload_n 1, 0, 0, 0), 
  (43, 0, .bipush 49, 0, 0, 0), (45, 0, .iadd, 0, 0, 0), (46, 1, .iload_n 3, 0, 0, 0), (47, 0, .iadd, 0, 0, 0), (48, 0, .dup2, 0, 0, 0), 
  (49, 7, .iaload, 0, 0, 0), (50, 1, .iload_n 2, 0, 0, 0), (51, 1, .iload_n 3, 0, 0, 0), (52, 0, .ishr, 0, 0, 0), (53, 0, .iconst 1, 0, 0, 0), 
  (54, 0, .iand, 0, 0, 0), (55, 0, .iadd, 0, 0, 0), (56, 8, .iastore, 0, 0, 0), (57, 22, .iinc 3 1, 0, 0, 0), (60, 3, .goto (-30), 30, 0, 0), 
  (63, 0, .iconst 0, 0, 0, 0), (64, 22, .istore_n 3, 0, 0, 0), (65, 0, .iconst 0, 0, 0, 0), (66, 22, .istore 4, 0, 0, 0), (68, 1, .iload 4, 0, 0, 0), 
  (70, 1, .aload_n 0, 0, 0, 0), (71, 5, .getfield 276, 12, 4, 0), (74, 3, .if_icmp .ge 40, 114, 0, 0), (77, 1, .iload_n 3, 0, 0, 0), 
  (78, 1, .iload_n 2, 0, 0, 0), (79, 1, .iload 4, 0, 0, 0), (81, 0, .ishr, 0, 0, 0), (82, 0, .iconst 1, 0, 0, 0), (83, 0, .iand, 0, 0, 0), 
  (84, 0, .iconst 1, 0, 0, 0), (85, 3, .if_icmp .ne 20, 105, 0, 0), (88, 1, .aload_n 0, 0, 0, 0), (89, 1, .iload_n 1, 0, 0, 0), 
  (90, 1, .iload 4, 0, 0, 0), (92, 12, .invokevirtual 359, 255, 3, 13), (95, 3, .ifCond .eq 10, 105, 0, 0), (98, 0, .iconst 1, 0, 0, 0), 
  (99, 1, .iload 4, 0, 0, 0), (101, 0, .ishl, 0, 0, 0), (102, 3, .goto 4, 106, 0, 0), (105, 0, .iconst 0, 0, 0, 0), (106, 0, .ior, 0, 0, 0), 
  (107, 22, .istore_n 3, 0, 0, 0), (108, 22, .iinc 4 1, 0, 0, 0), (111, 3, .goto (-43), 68, 0, 0), (114, 1, .iload_n 3, 0, 0, 0), 
  (115, 3, .ifCond .eq 10, 125, 0, 0), (118, 1, .aload_n 0, 0, 0, 0), (119, 1, .iload_n 1, 0, 0, 0), (120, 1, .iload_n 3, 0, 0, 0), 
  (121, 12, .invokevirtual 362, 256, 3, 13), (124, 0, .pop, 0, 0, 0), (125, 1, .aload_n 0, 0, 0, 0), (126, 5, .getfield 60, 12, 40, 0), 
  (129, 1, .iload_n 1, 0, 0, 0), (130, 0, .iconst 0, 0, 0, 0), (131, 0, .iadd, 0, 0, 0), (132, 0, .dup2, 0, 0, 0), (133, 7, .iaload, 0, 0, 0), 
  (134, 0, .iconst 1, 0, 0, 0), (135, 0, .iadd, 0, 0, 0), (136, 8, .iastore, 0, 0, 0), (137, 13, .return_, 0, 0, 0)]
/-- TemperDownsModel.rises(II)V -/
noncomputable def zk248 : List (Nat × zJ) := [
  (0, 1, .aload_n 0, 0, 0, 0), (1, 5, .getfield 60, 12, 40, 0), (4, 1, .iload_n 1, 0, 0, 0), (5, 0, .iconst 1, 0, 0, 0), (6, 0, .iadd, 0, 0, 0), 
  (7, 1, .iload_n 2, 0, 0, 0), (8, 0, .iadd, 0, 0, 0), (9, 0, .bipush 99, 0, 0, 0), (11, 1, .aload_n 0, 0, 0, 0), (12, 5, .getfield 60, 12, 40, 0), 
  (15, 1, .iload_n 1, 0, 0, 0), (16, 0, .iconst 1, 0, 0, 0), (17, 0, .iadd, 0, 0, 0), (18, 1, .iload_n 2, 0, 0, 0), (19, 0, .iadd, 0, 0, 0), 
  (20, 7, .iaload, 0, 0, 0), (21, 1, .aload_n 0, 0, 0, 0), (22, 1, .iload_n 1, 0, 0, 0), (23, 1, .iload_n 2, 0, 0, 0), 
  (24, 12, .invokevirtual 344, 249, 3, 13), (27, 0, .iadd, 0, 0, 0), (28, 12, .invokestatic 323, 253, 2, 0), (31, 8, .iastore, 0, 0, 0), 
  (32, 1, .aload_n 0, 0, 0, 0), (33, 5, .getfield 60, 12, 40, 0), (36, 1, .iload_n 1, 0, 0, 0), (37, 0, .iconst 1, 0, 0, 0), (38, 0, .iadd, 0, 0, 0), 
  (39, 1, .iload_n 2, 0, 0, 0), (40, 0, .iadd, 0, 0, 0), (41, 7, .iaload, 0, 0, 0), (42, 0, .bipush 20, 0, 0, 0), (44, 3, .if_icmp .ge 4, 48, 0, 0), 
  (47, 13, .return_, 0, 0, 0), (48, 1, .aload_n 0, 0, 0, 0), (49, 1, .iload_n 1, 0, 0, 0), (50, 1, .iload_n 2, 0, 0, 0), 
  (51, 12, .invokevirtual 347, 254, 3, 13), (54, 3, .ifCond .eq 16, 70, 0, 0), (57, 1, .aload_n 0, 0, 0, 0), (58, 0, .dup, 0, 0, 0), 
  (59, 5, .getfield 350, 12, 47, 0), (62, 0, .iconst 1, 0, 0, 0), (63, 1, .iload_n 2, 0, 0, 0), (64, 0, .ishl, 0, 0, 0), (65, 0, .ior, 0, 0, 0), 
  (66, 6, .putfield 350, 12, 47, 0), (69, 13, .return_, 0, 0, 0), (70, 1, .aload_n 0, 0, 0, 0), (71, 5, .getfield 60, 12, 40, 0), 
  (74, 1, .iload_n 1, 0, 0, 0), (75, 0, .iconst 1, 0, 0, 0), (76, 0, .iadd, 0, 0, 0), (77, 1, .iload_n 2, 0, 0, 0), (78, 0, .iadd, 0, 0, 0), 
  (79, 1, .aload_n 0, 0, 0, 0), (80, 5, .getfield 60, 12, 40, 0), (83, 1, .iload_n 1, 0, 0, 0), (84, 0, .iconst 1, 0, 0, 0), (85, 0, .iadd, 0, 0, 0), 
  (86, 1, .iload_n 2, 0, 0, 0), (87, 0, .iadd, 0, 0, 0), (88, 7, .iaload, 0, 0, 0), (89, 0, .iconst 2, 0, 0, 0), (90, 0, .idiv, 0, 0, 0), 
  (91, 8, .iastore, 0, 0, 0), (92, 1, .aload_n 0, 0, 0, 0), (93, 5, .getfield 60, 12, 40, 0), (96, 1, .iload_n 1, 0, 0, 0), 
  (97, 0, .bipush 8, 0, 0, 0), (99, 0, .iadd, 0, 0, 0), (100, 1, .iload_n 2, 0, 0, 0), (101, 0, .iadd, 0, 0, 0), (102, 0, .dup2, 0, 0, 0), 
  (103, 7, .iaload, 0, 0, 0), (104, 0, .iconst 1, 0, 0, 0), (105, 0, .iadd, 0, 0, 0), (106, 8, .iastore, 0, 0, 0), (107, 1, .aload_n 0, 0, 0, 0), 
  (108, 0, .dup, 0, 0, 0), (109, 5, .getfield 353, 12, 48, 0), (112, 0, .iconst 1, 0, 0, 0), (113, 1, .iload_n 2, 0, 0, 0), (114, 0, .ishl, 0, 0, 0), 
  (115, 0, .ior, 0, 0, 0), (116, 6, .putfield 353, 12, 48, 0), (119, 13, .return_, 0, 0, 0)]
/-- TemperDownsModel.risesBy(II)I -/
noncomputable def zk249 : List (Nat × zJ) := [
  (0, 1, .aload_n 0, 0, 0, 0), (1, 5, .getfield 16, 12, 5, 0), (4, 0, .iconst (-1), 0, 0, 0), (5, 3, .if_icmp .ne 18, 23, 0, 0), 
  (8, 0, .bipush 10, 0, 0, 0), (10, 1, .aload_n 0, 0, 0, 0), (11, 5, .getfield 60, 12, 40, 0), (14, 1, .iload_n 1, 0, 0, 0), 
  (15, 0, .bipush 22, 0, 0, 0), (17, 0, .iadd, 0, 0, 0), (18, 1, .iload_n 2, 0, 0, 0), (19, 0, .iadd, 0, 0, 0), (20, 7, .iaload, 0, 0, 0), 
  (21, 0, .isub, 0, 0, 0), (22, 13, .ireturn, 0, 0, 0), (23, 1, .aload_n 0, 0, 0, 0), (24, 5, .getfield 66, 12, 43, 0), (27, 0, .iconst 0, 0, 0, 0), 
  (28, 1, .aload_n 0, 0, 0, 0), (29, 5, .getfield 60, 12, 40, 0), (32, 1, .iload_n 1, 0, 0, 0), (33, 0, .bipush 22, 0, 0, 0), (35, 0, .iadd, 0, 0, 0), 
  (36, 1, .iload_n 2, 0, 0, 0), (37, 0, .iadd, 0, 0, 0), (38, 7, .iaload, 0, 0, 0), (39, 8, .iastore, 0, 0, 0), (40, 1, .aload_n 0, 0, 0, 0), 
  (41, 5, .getfield 66, 12, 43, 0), (44, 0, .iconst 1, 0, 0, 0), (45, 1, .aload_n 0, 0, 0, 0), (46, 5, .getfield 60, 12, 40, 0), 
  (49, 1, .iload_n 1, 0, 0, 0), (50, 0, .iconst 1, 0, 0, 0), (51, 0, .iadd, 0, 0, 0), (52, 1, .iload_n 2, 0, 0, 0), (53, 0, .iadd, 0, 0, 0), 
  (54, 7, .iaload, 0, 0, 0), (55, 8, .iastore, 0, 0, 0), (56, 1, .aload_n 0, 0, 0, 0), (57, 5, .getfield 66, 12, 43, 0), (60, 0, .iconst 2, 0, 0, 0), 
  (61, 1, .aload_n 0, 0, 0, 0), (62, 5, .getfield 60, 12, 40, 0), (65, 1, .iload_n 1, 0, 0, 0), (66, 0, .bipush 8, 0, 0, 0), (68, 0, .iadd, 0, 0, 0), 
  (69, 1, .iload_n 2, 0, 0, 0), (70, 0, .iadd, 0, 0, 0), (71, 7, .iaload, 0, 0, 0), (72, 8, .iastore, 0, 0, 0), (73, 1, .aload_n 0, 0, 0, 0), 
  (74, 5, .getfield 66, 12, 43, 0), (77, 0, .iconst 3, 0, 0, 0), (78, 1, .aload_n 0, 0, 0, 0), (79, 5, .getfield 60, 12, 40, 0), 
  (82, 1, .iload_n 1, 0, 0, 0), (83, 0, .bipush 15, 0, 0, 0), (85, 0, .iadd, 0, 0, 0), (86, 1, .iload_n 2, 0, 0, 0), (87, 0, .iadd, 0, 0, 0), 
  (88, 7, .iaload, 0, 0, 0), (89, 8, .iastore, 0, 0, 0), (90, 1, .aload_n 0, 0, 0, 0), (91, 5, .getfield 66, 12, 43, 0), (94, 0, .iconst 4, 0, 0, 0), 
  (95, 1, .aload_n 0, 0, 0, 0), (96, 5, .getfield 60, 12, 40, 0), (99, 1, .iload_n 1, 0, 0, 0), (100, 0, .iconst 0, 0, 0, 0), (101, 0, .iadd, 0, 0, 0), 
  (102, 7, .iaload, 0, 0, 0), (103, 8, .iastore, 0, 0, 0), (104, 1, .aload_n 0, 0, 0, 0), (105, 1, .aload_n 0, 0, 0, 0), 
  (106, 5, .getfield 16, 12, 5, 0), (109, 12, .invokevirtual 338, 250, 2, 13), (112, 0, .iconst 0, 0, 0, 0), (113, 0, .bipush 20, 0, 0, 0), 
  (115, 12, .invokestatic 341, 252, 3, 0), (118, 13, .ireturn, 0, 0, 0)]
/-- TemperDownsModel.reckons(I)I -/
noncomputable def zk250 : List (Nat × zJ) := [
  (0, 0, .iconst 0, 0, 0, 0), (1, 22, .istore_n 2, 0, 0, 0), (2, 1, .iload_n 1, 0, 0, 0), (3, 22, .istore_n 3, 0, 0, 0), (4, 1, .aload_n 0, 0, 0, 0), 
  (5, 5, .getfield 29, 12, 9, 0), (8, 1, .iload_n 3, 0, 0, 0), (9, 7, .iaload, 0, 0, 0), (10, 3, .ifCond .eq 133, 143, 0, 0), 
  (13, 1, .aload_n 0, 0, 0, 0), (14, 5, .getfield 29, 12, 9, 0), (17, 1, .iload_n 3, 0, 0, 0), (18, 7, .iaload, 0, 0, 0), (19, 22, .istore 4, 0, 0, 0), 
  (21, 22, .iinc 3 1, 0, 0, 0), (24, 1, .iload 4, 0, 0, 0), (26, 0, .iconst 1, 0, 0, 0), (27, 3, .if_icmp .eq 9, 36, 0, 0), (30, 1, .iload 4, 0, 0, 0), 
  (32, 0, .iconst 2, 0, 0, 0), (33, 3, .if_icmp .ne 44, 77, 0, 0), (36, 1, .aload_n 0, 0, 0, 0), (37, 5, .getfield 69, 12, 44, 0), 
  (40, 1, .iload_n 2, 0, 0, 0), (41, 1, .iload 4, 0, 0, 0), (43, 0, .iconst 1, 0, 0, 0), (44, 3, .if_icmp .ne 12, 56, 0, 0), 
  (47, 1, .aload_n 0, 0, 0, 0), (48, 5, .getfield 29, 12, 9, 0), (51, 1, .iload_n 3, 0, 0, 0), (52, 7, .iaload, 0, 0, 0), (53, 3, .goto 14, 67, 0, 0), 
  (56, 1, .aload_n 0, 0, 0, 0), (57, 5, .getfield 66, 12, 43, 0), (60, 1, .aload_n 0, 0, 0, 0), (61, 5, .getfield 29, 12, 9, 0), 
  (64, 1, .iload_n 3, 0, 0, 0), (65, 7, .iaload, 0, 0, 0), (66, 7, .iaload, 0, 0, 0), (67, 8, .iastore, 0, 0, 0), (68, 22, .iinc 3 1, 0, 0, 0), 
  (71, 22, .iinc 2 1, 0, 0, 0), (74, 3, .goto 66, 140, 0, 0), (77, 1, .iload 4, 0, 0, 0), (79, 0, .iconst 3, 0, 0, 0), 
  (80, 3, .if_icmp .ne 30, 110, 0, 0), (83, 1, .aload_n 0, 0, 0, 0), (84, 5, .getfield 69, 12, 44, 0), (87, 1, .iload_n 2, 0, 0, 0), 
  (88, 0, .iconst 1, 0, 0, 0), (89, 0, .isub, 0, 0, 0), (90, 1, .aload_n 0, 0, 0, 0), (91, 5, .getfield 69, 12, 44, 0), (94, 1, .iload_n 2, 0, 0, 0), 
  (95, 0, .iconst 1, 0, 0, 0), (96, 0, .isub, 0, 0, 0), (97, 7, .iaload, 0, 0, 0), (98, 3, .ifCond .ne 7, 105, 0, 0), (101, 0, .iconst 1, 0, 0, 0), 
  (102, 3, .goto 4, 106, 0, 0), (105, 0, .iconst 0, 0, 0, 0), (106, 8, .iastore, 0, 0, 0), (107, 3, .goto 33, 140, 0, 0), 
  (110, 22, .iinc 2 (-1), 0, 0, 0), (113, 1, .aload_n 0, 0, 0, 0), (114, 5, .getfield 69, 12, 44, 0), (117, 1, .iload_n 2, 0, 0, 0), 
  (118, 0, .iconst 1, 0, 0, 0), (119, 0, .isub, 0, 0, 0), (120, 1, .iload 4, 0, 0, 0), (122, 1, .aload_n 0, 0, 0, 0), 
  (123, 5, .getfield 69, 12, 44, 0), (126, 1, .iload_n 2, 0, 0, 0), (127, 0, .iconst 1, 0, 0, 0), (128, 0, .isub, 0, 0, 0), (129, 7, .iaload, 0, 0, 0), 
  (130, 1, .aload_n 0, 0, 0, 0), (131, 5, .getfield 69, 12, 44, 0), (134, 1, .iload_n 2, 0, 0, 0), (135, 7, .iaload, 0, 0, 0), 
  (136, 12, .invokestatic 293, 251, 3, 0), (139, 8, .iastore, 0, 0, 0), (140, 3, .goto (-136), 4, 0, 0), (143, 1, .aload_n 0, 0, 0, 0), 
  (144, 5, .getfield 69, 12, 44, 0), (147, 0, .iconst 0, 0, 0, 0), (148, 7, .iaload, 0, 0, 0), (149, 13, .ireturn, 0, 0, 0)]
/-- TemperDownsModel.works(III)I -/
noncomputable def zk251 : List (Nat × zJ) := [
  (0, 1, .iload_n 0, 0, 0, 0), (1, 4, .tableswitch 105 4 10 #[43, 57, 71, 82, 93, 97, 101], 0, 0, 0), (44, 1, .iload_n 1, 0, 0, 0), 
  (45, 3, .ifCond .eq 11, 56, 0, 0), (48, 1, .iload_n 2, 0, 0, 0), (49, 3, .ifCond .eq 7, 56, 0, 0), (52, 0, .iconst 1, 0, 0, 0), 
  (53, 3, .goto 4, 57, 0, 0), (56, 0, .iconst 0, 0, 0, 0), (57, 13, .ireturn, 0, 0, 0), (58, 1, .iload_n 1, 0, 0, 0), (59, 3, .ifCond .ne 7, 66, 0, 0), 
  (62, 1, .iload_n 2, 0, 0, 0), (63, 3, .ifCond .eq 7, 70, 0, 0), (66, 0, .iconst 1, 0, 0, 0), (67, 3, .goto 4, 71, 0, 0), (70, 0, .iconst 0, 0, 0, 0), 
  (71, 13, .ireturn, 0, 0, 0), (72, 1, .iload_n 1, 0, 0, 0), (73, 1, .iload_n 2, 0, 0, 0), (74, 3, .if_icmp .ge 7, 81, 0, 0), 
  (77, 0, .iconst 1, 0, 0, 0), (78, 3, .goto 4, 82, 0, 0), (81, 0, .iconst 0, 0, 0, 0), (82, 13, .ireturn, 0, 0, 0), (83, 1, .iload_n 1, 0, 0, 0), 
  (84, 1, .iload_n 2, 0, 0, 0), (85, 3, .if_icmp .ne 7, 92, 0, 0), (88, 0, .iconst 1, 0, 0, 0), (89, 3, .goto 4, 93, 0, 0), 
  (92, 0, .iconst 0, 0, 0, 0), (93, 13, .ireturn, 0, 0, 0), (94, 1, .iload_n 1, 0, 0, 0), (95, 1, .iload_n 2, 0, 0, 0), (96, 0, .iadd, 0, 0, 0), 
  (97, 13, .ireturn, 0, 0, 0), (98, 1, .iload_n 1, 0, 0, 0), (99, 1, .iload_n 2, 0, 0, 0), (100, 0, .isub, 0, 0, 0), (101, 13, .ireturn, 0, 0, 0), 
  (102, 1, .iload_n 1, 0, 0, 0), (103, 1, .iload_n 2, 0, 0, 0), (104, 0, .imul, 0, 0, 0), (105, 13, .ireturn, 0, 0, 0), (106, 1, .iload_n 2, 0, 0, 0), 
  (107, 3, .ifCond .ne 7, 114, 0, 0), (110, 0, .iconst 0, 0, 0, 0), (111, 3, .goto 6, 117, 0, 0), (114, 1, .iload_n 1, 0, 0, 0), 
  (115, 1, .iload_n 2, 0, 0, 0), (116, 0, .idiv, 0, 0, 0), (117, 13, .ireturn, 0, 0, 0)]
/-- TemperDownsModel.bounded(III)I -/
noncomputable def zk252 : List (Nat × zJ) := [
  (0, 1, .iload_n 0, 0, 0, 0), (1, 1, .iload_n 1, 0, 0, 0), (2, 3, .if_icmp .ge 7, 9, 0, 0), (5, 1, .iload_n 1, 0, 0, 0), (6, 3, .goto 13, 19, 0, 0), 
  (9, 1, .iload_n 0, 0, 0, 0), (10, 1, .iload_n 2, 0, 0, 0), (11, 3, .if_icmp .le 7, 18, 0, 0), (14, 1, .iload_n 2, 0, 0, 0), 
  (15, 3, .goto 4, 19, 0, 0), (18, 1, .iload_n 0, 0, 0, 0), (19, 13, .ireturn, 0, 0, 0)]
/-- TemperDownsModel.lesser(II)I -/
noncomputable def zk253 : List (Nat × zJ) := [
  (0, 1, .iload_n 0, 0, 0, 0), (1, 1, .iload_n 1, 0, 0, 0), (2, 3, .if_icmp .ge 7, 9, 0, 0), (5, 1, .iload_n 0, 0, 0, 0), (6, 3, .goto 4, 10, 0, 0), 
  (9, 1, .iload_n 1, 0, 0, 0), (10, 13, .ireturn, 0, 0, 0)]
/-- TemperDownsModel.goesOut(II)Z -/
noncomputable def zk254 : List (Nat × zJ) := [
  (0, 1, .aload_n 0, 0, 0, 0), (1, 1, .iload_n 1, 0, 0, 0), (2, 1, .iload_n 2, 0, 0, 0), (3, 12, .invokevirtual 335, 237, 3, 13), 
  (6, 22, .istore_n 3, 0, 0, 0), (7, 1, .iload_n 3, 0, 0, 0), (8, 0, .iconst (-1), 0, 0, 0), (9, 3, .if_icmp .ne 5, 14, 0, 0), 
  (12, 0, .iconst 0, 0, 0, 0), (13, 13, .ireturn, 0, 0, 0), (14, 1, .aload_n 0, 0, 0, 0), (15, 5, .getfield 60, 12, 40, 0), 
  (18, 1, .iload_n 1, 0, 0, 0), (19, 0, .bipush 39, 0, 0, 0), (21, 0, .iadd, 0, 0, 0), (22, 1, .iload_n 3, 0, 0, 0), (23, 0, .iadd, 0, 0, 0), 
  (24, 1, .aload_n 0, 0, 0, 0), (25, 5, .getfield 60, 12, 40, 0), (28, 1, .iload_n 1, 0, 0, 0), (29, 0, .iconst 1, 0, 0, 0), (30, 0, .iadd, 0, 0, 0), 
  (31, 1, .iload_n 2, 0, 0, 0), (32, 0, .iadd, 0, 0, 0), (33, 7, .iaload, 0, 0, 0), (34, 8, .iastore, 0, 0, 0), (35, 1, .aload_n 0, 0, 0, 0), 
  (36, 5, .getfield 60, 12, 40, 0), (39, 1, .iload_n 1, 0, 0, 0), (40, 0, .bipush 59, 0, 0, 0), (42, 0, .iadd, 0, 0, 0), (43, 1, .iload_n 3, 0, 0, 0), 
  (44, 0, .iadd, 0, 0, 0), (45, 1, .iload_n 2, 0, 0, 0), (46, 8, .iastore, 0, 0, 0), (47, 1, .aload_n 0, 0, 0, 0), (48, 5, .getfield 60, 12, 40, 0), 
  (51, 1, .iload_n 1, 0, 0, 0), (52, 0, .bipush 49, 0, 0, 0), (54, 0, .iadd, 0, 0, 0), (55, 1, .iload_n 3, 0, 0, 0), (56, 0, .iadd, 0, 0, 0), 
  (57, 0, .iconst 0, 0, 0, 0), (58, 8, .iastore, 0, 0, 0), (59, 1, .aload_n 0, 0, 0, 0), (60, 5, .getfield 60, 12, 40, 0), 
  (63, 1, .iload_n 1, 0, 0, 0), (64, 0, .iconst 1, 0, 0, 0), (65, 0, .iadd, 0, 0, 0), (66, 1, .iload_n 2, 0, 0, 0), (67, 0, .iadd, 0, 0, 0), 
  (68, 0, .iconst 0, 0, 0, 0), (69, 8, .iastore, 0, 0, 0), (70, 0, .iconst 1, 0, 0, 0), (71, 13, .ireturn, 0, 0, 0)]
/-- TemperDownsModel.bursts(II)Z -/
noncomputable def zk255 : List (Nat × zJ) := [
  (0, 1, .aload_n 0, 0, 0, 0), (1, 5, .getfield 19, 12, 6, 0), (4, 0, .iconst (-1), 0, 0, 0), (5, 3, .if_icmp .ne 25, 30, 0, 0), 
  (8, 1, .aload_n 0, 0, 0, 0), (9, 5, .getfield 60, 12, 40, 0), (12, 1, .iload_n 1, 0, 0, 0), (13, 0, .bipush 49, 0, 0, 0), (15, 0, .iadd, 0, 0, 0), 
  (16, 1, .iload_n 2, 0, 0, 0), (17, 0, .iadd, 0, 0, 0), (18, 7, .iaload, 0, 0, 0), (19, 0, .bipush 10, 0, 0, 0), (21, 3, .if_icmp .lt 7, 28, 0, 0), 
  (24, 0, .iconst 1, 0, 0, 0), (25, 3, .goto 4, 29, 0, 0), (28, 0, .iconst 0, 0, 0, 0), (29, 13, .ireturn, 0, 0, 0), (30, 0, .iconst 0, 0, 0, 0), 
  (31, 22, .istore_n 3, 0, 0, 0), (32, 0, .iconst 0, 0, 0, 0), (33, 22, .istore 4, 0, 0, 0), (35, 1, .iload 4, 0, 0, 0), (37, 1, .aload_n 0, 0, 0, 0), 
  (38, 5, .getfield 276, 12, 4, 0), (41, 3, .if_icmp .ge 54, 95, 0, 0), (44, 1, .iload_n 3, 0, 0, 0), (45, 1, .iload 4, 0, 0, 0), 
  (47, 1, .iload_n 2, 0, 0, 0), (48, 3, .if_icmp .eq 38, 86, 0, 0), (51, 1, .aload_n 0, 0, 0, 0), (52, 1, .iload_n 1, 0, 0, 0), 
  (53, 1, .iload 4, 0, 0, 0), (55, 12, .invokevirtual 303, 223, 3, 13), (58, 3, .ifCond .ne 28, 86, 0, 0), (61, 1, .aload_n 0, 0, 0, 0), 
  (62, 1, .iload_n 1, 0, 0, 0), (63, 1, .iload_n 2, 0, 0, 0), (64, 1, .aload_n 0, 0, 0, 0), (65, 5, .getfield 60, 12, 40, 0), 
  (68, 1, .iload_n 1, 0, 0, 0), (69, 0, .bipush 29, 0, 0, 0), (71, 0, .iadd, 0, 0, 0), (72, 1, .iload 4, 0, 0, 0), (74, 0, .iadd, 0, 0, 0), 
  (75, 7, .iaload, 0, 0, 0), (76, 12, .invokevirtual 307, 230, 4, 13), (79, 3, .ifCond .eq 7, 86, 0, 0), (82, 0, .iconst 1, 0, 0, 0), 
  (83, 3, .goto 4, 87, 0, 0), (86, 0, .iconst 0, 0, 0, 0), (87, 0, .iadd, 0, 0, 0), (88, 22, .istore_n 3, 0, 0, 0), (89, 22, .iinc 4 1, 0, 0, 0), 
  (92, 3, .goto (-57), 35, 0, 0), (95, 1, .aload_n 0, 0, 0, 0), (96, 5, .getfield 66, 12, 43, 0), (99, 0, .iconst 5, 0, 0, 0), 
  (100, 1, .aload_n 0, 0, 0, 0), (101, 5, .getfield 60, 12, 40, 0), (104, 1, .iload_n 1, 0, 0, 0), (105, 0, .bipush 39, 0, 0, 0), 
  (107, 0, .iadd, 0, 0, 0), (108, 1, .iload_n 2, 0, 0, 0), (109, 0, .iadd, 0, 0, 0), (110, 7, .iaload, 0, 0, 0), (111, 8, .iastore, 0, 0, 0), 
  (112, 1, .aload_n 0, 0, 0, 0), (113, 5, .getfield 66, 12, 43, 0), (116, 0, .bipush 6, 0, 0, 0), (118, 1, .aload_n 0, 0, 0, 0), 
  (119, 5, .getfield 26, 12, 8, 0), (122, 1, .iload_n 2, 0, 0, 0), (123, 7, .iaload, 0, 0, 0), (124, 8, .iastore, 0, 0, 0), 
  (125, 1, .aload_n 0, 0, 0, 0), (126, 5, .getfield 66, 12, 43, 0), (129, 0, .bipush 7, 0, 0, 0), (131, 1, .aload_n 0, 0, 0, 0), 
  (132, 5, .getfield 60, 12, 40, 0), (135, 1, .iload_n 1, 0, 0, 0), (136, 0, .bipush 49, 0, 0, 0), (138, 0, .iadd, 0, 0, 0), 
  (139, 1, .iload_n 2, 0, 0, 0), (140, 0, .iadd, 0, 0, 0), (141, 7, .iaload, 0, 0, 0), (142, 8, .iastore, 0, 0, 0), (143, 1, .aload_n 0, 0, 0, 0), 
  (144, 5, .getfield 66, 12, 43, 0), (147, 0, .bipush 8, 0, 0, 0), (149, 1, .iload_n 3, 0, 0, 0), (150, 8, .iastore, 0, 0, 0), 
  (151, 1, .aload_n 0, 0, 0, 0), (152, 5, .getfield 66, 12, 43, 0), (155, 0, .iconst 4, 0, 0, 0), (156, 1, .aload_n 0, 0, 0, 0), 
  (157, 5, .getfield 60, 12, 40, 0), (160, 1, .iload_n 1, 0, 0, 0), (161, 0, .iconst 0, 0, 0, 0), (162, 0, .iadd, 0, 0, 0), (163, 7, .iaload, 0, 0, 0), 
  (164, 8, .iastore, 0, 0, 0), (165, 1, .aload_n 0, 0, 0, 0), (166, 1, .aload_n 0, 0, 0, 0), (167, 5, .getfield 19, 12, 6, 0), 
  (170, 12, .invokevirtual 338, 250, 2, 13), (173, 3, .ifCond .le 7, 180, 0, 0), (176, 0, .iconst 1, 0, 0, 0), (177, 3, .goto 4, 181, 0, 0), 
  (180, 0, .iconst 0, 0, 0, 0), (181, 13, .ireturn, 0, 0, 0)]
/-- TemperDownsModel.goOff(II)I -/
noncomputable def zk256 : List (Nat × zJ) := [
  (0, 1, .aload_n 0, 0, 0, 0), (1, 1, .iload_n 1, 0, 0, 0), (2, 1, .iload_n 2, 0, 0, 0), (3, 1, .aload_n 0, 0, 0, 0), (4, 1, .iload_n 1, 0, 0, 0), 
  (5, 12, .invokevirtual 317, 227, 2, 13), (8, 12, .invokevirtual 320, 229, 4, 13), (11, 22, .istore_n 3, 0, 0, 0), (12, 0, .iconst 0, 0, 0, 0), 
  (13, 22, .istore 4, 0, 0, 0), (15, 1, .iload 4, 0, 0, 0), (17, 1, .aload_n 0, 0, 0, 0), (18, 5, .getfield 273, 12, 3, 0), 
  (21, 3, .if_icmp .ge 132, 153, 0, 0), (24, 0, .iconst 0, 0, 0, 0), (25, 22, .istore 5, 0, 0, 0), (27, 0, .iconst 0, 0, 0, 0), 
  (28, 22, .istore 6, 0, 0, 0), (30, 1, .iload 6, 0, 0, 0), (32, 1, .aload_n 0, 0, 0, 0), (33, 5, .getfield 276, 12, 4, 0), 
  (36, 3, .if_icmp .ge 46, 82, 0, 0), (39, 1, .iload 5, 0, 0, 0), (41, 1, .iload_n 3, 0, 0, 0), (42, 1, .iload 6, 0, 0, 0), (44, 0, .ishr, 0, 0, 0), 
  (45, 0, .iconst 1, 0, 0, 0), (46, 0, .iand, 0, 0, 0), (47, 0, .iconst 1, 0, 0, 0), (48, 3, .if_icmp .ne 24, 72, 0, 0), (51, 1, .aload_n 0, 0, 0, 0), 
  (52, 1, .iload_n 1, 0, 0, 0), (53, 1, .iload 6, 0, 0, 0), (55, 1, .aload_n 0, 0, 0, 0), (56, 5, .getfield 22, 12, 7, 0), (59, 1, .iload 4, 0, 0, 0), 
  (61, 7, .iaload, 0, 0, 0), (62, 12, .invokevirtual 307, 230, 4, 13), (65, 3, .ifCond .eq 7, 72, 0, 0), (68, 0, .iconst 1, 0, 0, 0), 
  (69, 3, .goto 4, 73, 0, 0), (72, 0, .iconst 0, 0, 0, 0), (73, 0, .iadd, 0, 0, 0), (74, 22, .istore 5, 0, 0, 0), (76, 22, .iinc 6 1, 0, 0, 0), 
  (79, 3, .goto (-49), 30, 0, 0), (82, 1, .aload_n 0, 0, 0, 0), (83, 5, .getfield 60, 12, 40, 0), (86, 1, .iload_n 1, 0, 0, 0), 
  (87, 0, .bipush 15, 0, 0, 0), (89, 0, .iadd, 0, 0, 0), (90, 1, .iload 4, 0, 0, 0), (92, 0, .iadd, 0, 0, 0), (93, 0, .sipush 9999, 0, 0, 0), 
  (96, 1, .aload_n 0, 0, 0, 0), (97, 5, .getfield 60, 12, 40, 0), (100, 1, .iload_n 1, 0, 0, 0), (101, 0, .bipush 15, 0, 0, 0), 
  (103, 0, .iadd, 0, 0, 0), (104, 1, .iload 4, 0, 0, 0), (106, 0, .iadd, 0, 0, 0), (107, 7, .iaload, 0, 0, 0), (108, 1, .iload 5, 0, 0, 0), 
  (110, 0, .iadd, 0, 0, 0), (111, 12, .invokestatic 323, 253, 2, 0), (114, 8, .iastore, 0, 0, 0), (115, 1, .aload_n 0, 0, 0, 0), 
  (116, 5, .getfield 60, 12, 40, 0), (119, 1, .iload_n 1, 0, 0, 0), (120, 0, .iconst 1, 0, 0, 0), (121, 0, .iadd, 0, 0, 0), 
  (122, 1, .iload 4, 0, 0, 0), (124, 0, .iadd, 0, 0, 0), (125, 0, .bipush 99, 0, 0, 0), (127, 1, .aload_n 0, 0, 0, 0), 
  (128, 5, .getfield 60, 12, 40, 0), (131, 1, .iload_n 1, 0, 0, 0), (132, 0, .iconst 1, 0, 0, 0), (133, 0, .iadd, 0, 0, 0), 
  (134, 1, .iload 4, 0, 0, 0), (136, 0, .iadd, 0, 0, 0), (137, 7, .iaload, 0, 0, 0), (138, 0, .iconst 5, 0, 0, 0), (139, 1, .iload 5, 0, 0, 0), 
  (141, 0, .imul, 0, 0, 0), (142, 0, .iadd, 0, 0, 0), (143, 12, .invokestatic 323, 253, 2, 0), (146, 8, .iastore, 0, 0, 0), 
  (147, 22, .iinc 4 1, 0, 0, 0), (150, 3, .goto (-135), 15, 0, 0), (153, 0, .iconst 0, 0, 0, 0), (154, 22, .istore 4, 0, 0, 0), 
  (156, 1, .iload 4, 0, 0, 0), (158, 1, .aload_n 0, 0, 0, 0), (159, 5, .getfield 276, 12, 4, 0), (162, 3, .if_icmp .ge 60, 222, 0, 0), 
  (165, 1, .iload_n 3, 0, 0, 0), (166, 1, .iload 4, 0, 0, 0), (168, 0, .ishr, 0, 0, 0), (169, 0, .iconst 1, 0, 0, 0), (170, 0, .iand, 0, 0, 0), 
  (171, 3, .ifCond .ne 6, 177, 0, 0), (174, 3, .goto 42, 216, 0, 0), (177, 1, .aload_n 0, 0, 0, 0), (178, 5, .getfield 60, 12, 40, 0), 
  (181, 1, .iload_n 1, 0, 0, 0), (182, 0, .bipush 39, 0, 0, 0), (184, 0, .iadd, 0, 0, 0), (185, 1, .iload 4, 0, 0, 0), (187, 0, .iadd, 0, 0, 0), 
  (188, 0, .iconst 0, 0, 0, 0), (189, 8, .iastore, 0, 0, 0), (190, 1, .aload_n 0, 0, 0, 0), (191, 5, .getfield 60, 12, 40, 0), 
  (194, 1, .iload_n 1, 0, 0, 0), (195, 0, .bipush 49, 0, 0, 0), (197, 0, .iadd, 0, 0, 0), (198, 1, .iload 4, 0, 0, 0), (200, 0, .iadd, 0, 0, 0), 
  (201, 0, .iconst 0, 0, 0, 0), (202, 8, .iastore, 0, 0, 0), (203, 1, .aload_n 0, 0, 0, 0), (204, 5, .getfield 60, 12, 40, 0), 
  (207, 1, .iload_n 1, 0, 0, 0), (208, 0, .bipush 59, 0, 0, 0), (210, 0, .iadd, 0, 0, 0), (211, 1, .iload 4, 0, 0, 0), (213, 0, .iadd, 0, 0, 0), 
  (214, 0, .iconst (-1), 0, 0, 0), (215, 8, .iastore, 0, 0, 0), (216, 22, .iinc 4 1, 0, 0, 0), (219, 3, .goto (-63), 156, 0, 0), 
  (222, 1, .aload_n 0, 0, 0, 0), (223, 0, .dup, 0, 0, 0), (224, 5, .getfield 326, 12, 45, 0), (227, 1, .iload_n 3, 0, 0, 0), (228, 0, .ior, 0, 0, 0), 
  (229, 6, .putfield 326, 12, 45, 0), (232, 1, .aload_n 0, 0, 0, 0), (233, 0, .dup, 0, 0, 0), (234, 5, .getfield 329, 12, 46, 0), 
  (237, 1, .iload_n 3, 0, 0, 0), (238, 12, .invokestatic 332, 228, 1, 0), (241, 0, .iadd, 0, 0, 0), (242, 6, .putfield 329, 12, 46, 0), 
  (245, 1, .iload_n 3, 0, 0, 0), (246, 12, .invokestatic 332, 228, 1, 0), (249, 13, .ireturn, 0, 0, 0)]
/-- TemperDownsModel.tread(I)I -/
noncomputable def zk257 : List (Nat × zJ) := [
  (0, 1, .aload_n 0, 0, 0, 0), (1, 0, .iconst 0, 0, 0, 0), (2, 6, .putfield 102, 12, 0, 0), (5, 1, .aload_n 0, 0, 0, 0), (6, 1, .iload_n 1, 0, 0, 0), 
  (7, 12, .invokevirtual 392, 239, 2, 13), (10, 3, .ifCond .ne 5, 15, 0, 0), (13, 0, .iconst 0, 0, 0, 0), (14, 13, .ireturn, 0, 0, 0), 
  (15, 1, .aload_n 0, 0, 0, 0), (16, 0, .iconst 0, 0, 0, 0), (17, 1, .iload_n 1, 0, 0, 0), (18, 12, .invokevirtual 407, 258, 3, 13), 
  (21, 3, .ifCond .ne 9, 30, 0, 0), (24, 1, .aload_n 0, 0, 0, 0), (25, 0, .iconst 1, 0, 0, 0), (26, 12, .invokevirtual 401, 243, 2, 13), 
  (29, 13, .ireturn, 0, 0, 0), (30, 1, .aload_n 0, 0, 0, 0), (31, 12, .invokevirtual 404, 244, 1, 13), (34, 1, .aload_n 0, 0, 0, 0), 
  (35, 0, .iconst 0, 0, 0, 0), (36, 0, .iconst 1, 0, 0, 0), (37, 1, .iload_n 1, 0, 0, 0), (38, 0, .ishl, 0, 0, 0), 
  (39, 12, .invokevirtual 362, 256, 3, 13), (42, 13, .ireturn, 0, 0, 0)]
/-- TemperDownsModel.mayTread(II)Z -/
noncomputable def zk258 : List (Nat × zJ) := [
  (0, 1, .aload_n 0, 0, 0, 0), (1, 1, .iload_n 1, 0, 0, 0), (2, 1, .iload_n 2, 0, 0, 0), (3, 12, .invokevirtual 303, 223, 3, 13), 
  (6, 3, .ifCond .ne 21, 27, 0, 0), (9, 1, .aload_n 0, 0, 0, 0), (10, 5, .getfield 60, 12, 40, 0), (13, 1, .iload_n 1, 0, 0, 0), 
  (14, 0, .bipush 69, 0, 0, 0), (16, 0, .iadd, 0, 0, 0), (17, 1, .iload_n 2, 0, 0, 0), (18, 0, .iadd, 0, 0, 0), (19, 7, .iaload, 0, 0, 0), 
  (20, 3, .ifCond .ne 7, 27, 0, 0), (23, 0, .iconst 1, 0, 0, 0), (24, 3, .goto 4, 28, 0, 0), (27, 0, .iconst 0, 0, 0, 0), (28, 13, .ireturn, 0, 0, 0)]
/-- TemperDownsModel.carry(II)I -/
noncomputable def zk259 : List (Nat × zJ) := [
  (0, 1, .aload_n 0, 0, 0, 0), (1, 0, .iconst 0, 0, 0, 0), (2, 6, .putfield 102, 12, 0, 0), (5, 1, .aload_n 0, 0, 0, 0), (6, 1, .iload_n 1, 0, 0, 0), 
  (7, 12, .invokevirtual 392, 239, 2, 13), (10, 3, .ifCond .eq 11, 21, 0, 0), (13, 1, .aload_n 0, 0, 0, 0), (14, 1, .iload_n 2, 0, 0, 0), 
  (15, 12, .invokevirtual 410, 260, 2, 13), (18, 3, .ifCond .ne 5, 23, 0, 0), (21, 0, .iconst 0, 0, 0, 0), (22, 13, .ireturn, 0, 0, 0), 
  (23, 1, .aload_n 0, 0, 0, 0), (24, 5, .getfield 60, 12, 40, 0), (27, 0, .bipush 29, 0, 0, 0), (29, 1, .iload_n 1, 0, 0, 0), (30, 0, .iadd, 0, 0, 0), 
  (31, 7, .iaload, 0, 0, 0), (32, 22, .istore_n 3, 0, 0, 0), (33, 1, .iload_n 3, 0, 0, 0), (34, 1, .iload_n 2, 0, 0, 0), 
  (35, 3, .if_icmp .ne 9, 44, 0, 0), (38, 1, .aload_n 0, 0, 0, 0), (39, 0, .iconst 1, 0, 0, 0), (40, 12, .invokevirtual 401, 243, 2, 13), 
  (43, 13, .ireturn, 0, 0, 0), (44, 1, .aload_n 0, 0, 0, 0), (45, 12, .invokevirtual 404, 244, 1, 13), (48, 1, .aload_n 0, 0, 0, 0), 
  (49, 5, .getfield 60, 12, 40, 0), (52, 0, .bipush 29, 0, 0, 0), (54, 1, .iload_n 1, 0, 0, 0), (55, 0, .iadd, 0, 0, 0), (56, 1, .iload_n 2, 0, 0, 0), 
  (57, 8, .iastore, 0, 0, 0), (58, 1, .iload_n 3, 0, 0, 0), (59, 13, .ireturn, 0, 0, 0)]
/-- TemperDownsModel.isCell(I)Z -/
noncomputable def zk260 : List (Nat × zJ) := [
  (0, 1, .aload_n 0, 0, 0, 0), (1, 1, .iload_n 1, 0, 0, 0), (2, 3, .ifCond .lt 20, 22, 0, 0), (5, 1, .iload_n 1, 0, 0, 0), (6, 1, .aload_n 0, 0, 0, 0), 
  (7, 5, .getfield 7, 12, 1, 0), (10, 1, .aload_n 0, 0, 0, 0), (11, 5, .getfield 13, 12, 2, 0), (14, 0, .imul, 0, 0, 0), 
  (15, 3, .if_icmp .ge 7, 22, 0, 0), (18, 0, .iconst 1, 0, 0, 0), (19, 3, .goto 4, 23, 0, 0), (22, 0, .iconst 0, 0, 0, 0), (23, 0, .iconst 1, 0, 0, 0), 
  (24, 12, .invokevirtual 266, 188, 3, 13), (27, 13, .ireturn, 0, 0, 0)]
/-- TemperDownsModel.guard(IZ)Z -/
noncomputable def zk261 : List (Nat × zJ) := [
  (0, 1, .aload_n 0, 0, 0, 0), (1, 0, .iconst 0, 0, 0, 0), (2, 6, .putfield 102, 12, 0, 0), (5, 1, .aload_n 0, 0, 0, 0), (6, 1, .iload_n 1, 0, 0, 0), 
  (7, 12, .invokevirtual 392, 239, 2, 13), (10, 3, .ifCond .ne 5, 15, 0, 0), (13, 0, .iconst 0, 0, 0, 0), (14, 13, .ireturn, 0, 0, 0), 
  (15, 1, .aload_n 0, 0, 0, 0), (16, 5, .getfield 60, 12, 40, 0), (19, 0, .bipush 69, 0, 0, 0), (21, 1, .iload_n 1, 0, 0, 0), (22, 0, .iadd, 0, 0, 0), 
  (23, 7, .iaload, 0, 0, 0), (24, 0, .iconst 1, 0, 0, 0), (25, 3, .if_icmp .ne 7, 32, 0, 0), (28, 0, .iconst 1, 0, 0, 0), (29, 3, .goto 4, 33, 0, 0), 
  (32, 0, .iconst 0, 0, 0, 0), (33, 1, .iload_n 2, 0, 0, 0), (34, 3, .if_icmp .ne 17, 51, 0, 0), (37, 1, .aload_n 0, 0, 0, 0), 
  (38, 0, .iconst 1, 0, 0, 0), (39, 12, .invokevirtual 401, 243, 2, 13), (42, 3, .ifCond .le 7, 49, 0, 0), (45, 0, .iconst 1, 0, 0, 0), 
  (46, 3, .goto 4, 50, 0, 0), (49, 0, .iconst 0, 0, 0, 0), (50, 13, .ireturn, 0, 0, 0), (51, 1, .aload_n 0, 0, 0, 0), 
  (52, 12, .invokevirtual 404, 244, 1, 13), (55, 1, .aload_n 0, 0, 0, 0), (56, 5, .getfield 60, 12, 40, 0), (59, 0, .bipush 69, 0, 0, 0), 
  (61, 1, .iload_n 1, 0, 0, 0), (62, 0, .iadd, 0, 0, 0), (63, 1, .iload_n 2, 0, 0, 0), (64, 3, .ifCond .eq 7, 71, 0, 0), (67, 0, .iconst 1, 0, 0, 0), 
  (68, 3, .goto 4, 72, 0, 0), (71, 0, .iconst 0, 0, 0, 0), (72, 8, .iastore, 0, 0, 0), (73, 0, .iconst 1, 0, 0, 0), (74, 13, .ireturn, 0, 0, 0)]
/-- TemperDownsModel.soothe(II)I -/
noncomputable def zk262 : List (Nat × zJ) := [
  (0, 1, .aload_n 0, 0, 0, 0), (1, 0, .iconst 0, 0, 0, 0), (2, 6, .putfield 102, 12, 0, 0), (5, 1, .aload_n 0, 0, 0, 0), (6, 1, .iload_n 1, 0, 0, 0), 
  (7, 12, .invokevirtual 383, 234, 2, 13), (10, 3, .ifCond .ne 5, 15, 0, 0), (13, 0, .iconst 0, 0, 0, 0), (14, 13, .ireturn, 0, 0, 0), 
  (15, 1, .aload_n 0, 0, 0, 0), (16, 5, .getfield 60, 12, 40, 0), (19, 0, .iconst 1, 0, 0, 0), (20, 1, .iload_n 1, 0, 0, 0), (21, 0, .iadd, 0, 0, 0), 
  (22, 7, .iaload, 0, 0, 0), (23, 22, .istore_n 3, 0, 0, 0), (24, 1, .iload_n 2, 0, 0, 0), (25, 0, .iconst 0, 0, 0, 0), (26, 0, .bipush 99, 0, 0, 0), 
  (28, 12, .invokestatic 374, 221, 3, 0), (31, 3, .ifCond .ne 9, 40, 0, 0), (34, 1, .aload_n 0, 0, 0, 0), (35, 0, .iconst 1, 0, 0, 0), 
  (36, 12, .invokevirtual 401, 243, 2, 13), (39, 13, .ireturn, 0, 0, 0), (40, 1, .aload_n 0, 0, 0, 0), (41, 12, .invokevirtual 404, 244, 1, 13), 
  (44, 1, .aload_n 0, 0, 0, 0), (45, 5, .getfield 60, 12, 40, 0), (48, 0, .iconst 1, 0, 0, 0), (49, 1, .iload_n 1, 0, 0, 0), (50, 0, .iadd, 0, 0, 0), 
  (51, 1, .iload_n 2, 0, 0, 0), (52, 8, .iastore, 0, 0, 0), (53, 1, .iload_n 3, 0, 0, 0), (54, 13, .ireturn, 0, 0, 0)]
/-- TemperDownsModel.then(III)I -/
noncomputable def zk263 : List (Nat × zJ) := [
  (0, 1, .aload_n 0, 0, 0, 0), (1, 0, .iconst 0, 0, 0, 0), (2, 6, .putfield 102, 12, 0, 0), (5, 1, .aload_n 0, 0, 0, 0), (6, 1, .iload_n 1, 0, 0, 0), 
  (7, 12, .invokevirtual 392, 239, 2, 13), (10, 3, .ifCond .eq 22, 32, 0, 0), (13, 1, .aload_n 0, 0, 0, 0), (14, 1, .iload_n 3, 0, 0, 0), 
  (15, 0, .iconst 2, 0, 0, 0), (16, 12, .invokevirtual 386, 235, 3, 13), (19, 3, .ifCond .eq 13, 32, 0, 0), (22, 1, .aload_n 0, 0, 0, 0), 
  (23, 1, .iload_n 2, 0, 0, 0), (24, 0, .iconst 0, 0, 0, 0), (25, 0, .iconst 2, 0, 0, 0), (26, 12, .invokevirtual 419, 264, 4, 13), 
  (29, 3, .ifCond .ne 5, 34, 0, 0), (32, 0, .iconst 0, 0, 0, 0), (33, 13, .ireturn, 0, 0, 0), (34, 1, .aload_n 0, 0, 0, 0), 
  (35, 1, .iload_n 2, 0, 0, 0), (36, 12, .invokevirtual 422, 265, 2, 13), (39, 1, .aload_n 0, 0, 0, 0), (40, 5, .getfield 60, 12, 40, 0), 
  (43, 0, .bipush 79, 0, 0, 0), (45, 1, .iload_n 3, 0, 0, 0), (46, 3, .ifCond .ne 8, 54, 0, 0), (49, 0, .bipush 39, 0, 0, 0), 
  (51, 3, .goto 15, 66, 0, 0), (54, 1, .iload_n 3, 0, 0, 0), (55, 0, .iconst 1, 0, 0, 0), (56, 3, .if_icmp .ne 8, 64, 0, 0), 
  (59, 0, .bipush 49, 0, 0, 0), (61, 3, .goto 5, 66, 0, 0), (64, 0, .bipush 59, 0, 0, 0), (66, 0, .iadd, 0, 0, 0), (67, 1, .iload_n 1, 0, 0, 0), 
  (68, 0, .iadd, 0, 0, 0), (69, 7, .iaload, 0, 0, 0), (70, 13, .ireturn, 0, 0, 0)]
/-- TemperDownsModel.isSoon(III)Z -/
noncomputable def zk264 : List (Nat × zJ) := [
  (0, 1, .aload_n 0, 0, 0, 0), (1, 1, .iload_n 1, 0, 0, 0), (2, 1, .iload_n 2, 0, 0, 0), (3, 0, .bipush 60, 0, 0, 0), 
  (5, 12, .invokestatic 374, 221, 3, 0), (8, 1, .iload_n 3, 0, 0, 0), (9, 12, .invokevirtual 266, 188, 3, 13), (12, 13, .ireturn, 0, 0, 0)]
/-- TemperDownsModel.goesTo(I)V -/
noncomputable def zk265 : List (Nat × zJ) := [
  (0, 1, .aload_n 0, 0, 0, 0), (1, 12, .invokevirtual 413, 266, 1, 13), (4, 1, .aload_n 0, 0, 0, 0), (5, 1, .iload_n 1, 0, 0, 0), 
  (6, 12, .invokevirtual 416, 267, 2, 13), (9, 13, .return_, 0, 0, 0)]
/-- TemperDownsModel.tries()V -/
noncomputable def zk266 : List (Nat × zJ) := [
  (0, 0, .iconst 0, 0, 0, 0), (1, 22, .istore_n 1, 0, 0, 0), (2, 1, .iload_n 1, 0, 0, 0), (3, 0, .bipush 79, 0, 0, 0), 
  (5, 3, .if_icmp .ge 24, 29, 0, 0), (8, 1, .aload_n 0, 0, 0, 0), (9, 5, .getfield 60, 12, 40, 0), (12, 0, .bipush 79, 0, 0, 0), 
  (14, 1, .iload_n 1, 0, 0, 0), (15, 0, .iadd, 0, 0, 0), (16, 1, .aload_n 0, 0, 0, 0), (17, 5, .getfield 60, 12, 40, 0), (20, 1, .iload_n 1, 0, 0, 0), 
  (21, 7, .iaload, 0, 0, 0), (22, 8, .iastore, 0, 0, 0), (23, 22, .iinc 1 1, 0, 0, 0), (26, 3, .goto (-24), 2, 0, 0), (29, 13, .return_, 0, 0, 0)]
/-- TemperDownsModel.daysGo(I)V -/
noncomputable def zk267 : List (Nat × zJ) := [
  (0, 0, .iconst 0, 0, 0, 0), (1, 22, .istore_n 2, 0, 0, 0), (2, 1, .iload_n 2, 0, 0, 0), (3, 1, .iload_n 1, 0, 0, 0), 
  (4, 3, .if_icmp .ge 15, 19, 0, 0), (7, 1, .aload_n 0, 0, 0, 0), (8, 0, .bipush 79, 0, 0, 0), (10, 12, .invokevirtual 371, 245, 2, 13), 
  (13, 22, .iinc 2 1, 0, 0, 0), (16, 3, .goto (-14), 2, 0, 0), (19, 13, .return_, 0, 0, 0)]
/-- TemperDownsModel.mood(III)I -/
noncomputable def zk268 : List (Nat × zJ) := [
  (0, 1, .aload_n 0, 0, 0, 0), (1, 0, .iconst 0, 0, 0, 0), (2, 6, .putfield 102, 12, 0, 0), (5, 1, .aload_n 0, 0, 0, 0), (6, 1, .iload_n 1, 0, 0, 0), 
  (7, 12, .invokevirtual 383, 234, 2, 13), (10, 3, .ifCond .eq 22, 32, 0, 0), (13, 1, .aload_n 0, 0, 0, 0), (14, 1, .iload_n 3, 0, 0, 0), 
  (15, 0, .iconst 2, 0, 0, 0), (16, 12, .invokevirtual 386, 235, 3, 13), (19, 3, .ifCond .eq 13, 32, 0, 0), (22, 1, .aload_n 0, 0, 0, 0), 
  (23, 1, .iload_n 2, 0, 0, 0), (24, 0, .iconst 0, 0, 0, 0), (25, 0, .iconst 2, 0, 0, 0), (26, 12, .invokevirtual 419, 264, 4, 13), 
  (29, 3, .ifCond .ne 5, 34, 0, 0), (32, 0, .iconst 0, 0, 0, 0), (33, 13, .ireturn, 0, 0, 0), (34, 1, .aload_n 0, 0, 0, 0), 
  (35, 1, .iload_n 2, 0, 0, 0), (36, 12, .invokevirtual 422, 265, 2, 13), (39, 1, .aload_n 0, 0, 0, 0), (40, 5, .getfield 60, 12, 40, 0), 
  (43, 0, .bipush 79, 0, 0, 0), (45, 1, .iload_n 3, 0, 0, 0), (46, 3, .ifCond .ne 7, 53, 0, 0), (49, 0, .iconst 1, 0, 0, 0), 
  (50, 3, .goto 15, 65, 0, 0), (53, 1, .iload_n 3, 0, 0, 0), (54, 0, .iconst 1, 0, 0, 0), (55, 3, .if_icmp .ne 8, 63, 0, 0), 
  (58, 0, .bipush 8, 0, 0, 0), (60, 3, .goto 5, 65, 0, 0), (63, 0, .bipush 15, 0, 0, 0), (65, 0, .iadd, 0, 0, 0), (66, 1, .iload_n 1, 0, 0, 0), 
  (67, 0, .iadd, 0, 0, 0), (68, 7, .iaload, 0, 0, 0), (69, 13, .ireturn, 0, 0, 0)]
/-- TemperDownsModel.off(I)I -/
noncomputable def zk269 : List (Nat × zJ) := [
  (0, 1, .aload_n 0, 0, 0, 0), (1, 0, .iconst 0, 0, 0, 0), (2, 6, .putfield 102, 12, 0, 0), (5, 1, .aload_n 0, 0, 0, 0), (6, 1, .iload_n 1, 0, 0, 0), 
  (7, 12, .invokevirtual 392, 239, 2, 13), (10, 3, .ifCond .ne 5, 15, 0, 0), (13, 0, .iconst 0, 0, 0, 0), (14, 13, .ireturn, 0, 0, 0), 
  (15, 1, .aload_n 0, 0, 0, 0), (16, 12, .invokevirtual 413, 266, 1, 13), (19, 0, .iconst 1, 0, 0, 0), (20, 22, .istore_n 2, 0, 0, 0), 
  (21, 1, .iload_n 2, 0, 0, 0), (22, 0, .bipush 60, 0, 0, 0), (24, 3, .if_icmp .gt 29, 53, 0, 0), (27, 1, .aload_n 0, 0, 0, 0), 
  (28, 0, .bipush 79, 0, 0, 0), (30, 12, .invokevirtual 371, 245, 2, 13), (33, 1, .aload_n 0, 0, 0, 0), (34, 5, .getfield 326, 12, 45, 0), 
  (37, 1, .iload_n 1, 0, 0, 0), (38, 0, .ishr, 0, 0, 0), (39, 0, .iconst 1, 0, 0, 0), (40, 0, .iand, 0, 0, 0), (41, 0, .iconst 1, 0, 0, 0), 
  (42, 3, .if_icmp .ne 5, 47, 0, 0), (45, 1, .iload_n 2, 0, 0, 0), (46, 13, .ireturn, 0, 0, 0), (47, 22, .iinc 2 1, 0, 0, 0), 
  (50, 3, .goto (-29), 21, 0, 0), (53, 0, .iconst (-1), 0, 0, 0), (54, 13, .ireturn, 0, 0, 0)]
/-- TemperDownsModel.first()I -/
noncomputable def zk270 : List (Nat × zJ) := [
  (0, 1, .aload_n 0, 0, 0, 0), (1, 0, .iconst 0, 0, 0, 0), (2, 6, .putfield 102, 12, 0, 0), (5, 1, .aload_n 0, 0, 0, 0), 
  (6, 12, .invokevirtual 413, 266, 1, 13), (9, 0, .iconst 1, 0, 0, 0), (10, 22, .istore_n 1, 0, 0, 0), (11, 1, .iload_n 1, 0, 0, 0), 
  (12, 0, .bipush 60, 0, 0, 0), (14, 3, .if_icmp .gt 30, 44, 0, 0), (17, 1, .aload_n 0, 0, 0, 0), (18, 0, .bipush 79, 0, 0, 0), 
  (20, 12, .invokevirtual 371, 245, 2, 13), (23, 1, .aload_n 0, 0, 0, 0), (24, 5, .getfield 326, 12, 45, 0), (27, 3, .ifCond .eq 11, 38, 0, 0), 
  (30, 1, .aload_n 0, 0, 0, 0), (31, 5, .getfield 326, 12, 45, 0), (34, 12, .invokestatic 425, 271, 1, 0), (37, 13, .ireturn, 0, 0, 0), 
  (38, 22, .iinc 1 1, 0, 0, 0), (41, 3, .goto (-30), 11, 0, 0), (44, 0, .iconst (-1), 0, 0, 0), (45, 13, .ireturn, 0, 0, 0)]
/-- TemperDownsModel.lowest(I)I -/
noncomputable def zk271 : List (Nat × zJ) := [
  (0, 0, .iconst 0, 0, 0, 0), (1, 22, .istore_n 1, 0, 0, 0), (2, 1, .iload_n 0, 0, 0, 0), (3, 1, .iload_n 1, 0, 0, 0), (4, 0, .ishr, 0, 0, 0), 
  (5, 0, .iconst 1, 0, 0, 0), (6, 0, .iand, 0, 0, 0), (7, 3, .ifCond .ne 9, 16, 0, 0), (10, 22, .iinc 1 1, 0, 0, 0), (13, 3, .goto (-11), 2, 0, 0), 
  (16, 1, .iload_n 1, 0, 0, 0), (17, 13, .ireturn, 0, 0, 0)]
/-- TemperDownsModel.later(II)I -/
noncomputable def zk272 : List (Nat × zJ) := [
  (0, 1, .aload_n 0, 0, 0, 0), (1, 0, .iconst 0, 0, 0, 0), (2, 6, .putfield 102, 12, 0, 0), (5, 1, .aload_n 0, 0, 0, 0), (6, 1, .iload_n 2, 0, 0, 0), 
  (7, 0, .iconst 3, 0, 0, 0), (8, 12, .invokevirtual 386, 235, 3, 13), (11, 3, .ifCond .eq 13, 24, 0, 0), (14, 1, .aload_n 0, 0, 0, 0), 
  (15, 1, .iload_n 1, 0, 0, 0), (16, 0, .iconst 0, 0, 0, 0), (17, 0, .iconst 2, 0, 0, 0), (18, 12, .invokevirtual 419, 264, 4, 13), 
  (21, 3, .ifCond .ne 5, 26, 0, 0), (24, 0, .iconst 0, 0, 0, 0), (25, 13, .ireturn, 0, 0, 0), (26, 0, .iconst 0, 0, 0, 0), 
  (27, 22, .istore_n 3, 0, 0, 0), (28, 1, .aload_n 0, 0, 0, 0), (29, 12, .invokevirtual 413, 266, 1, 13), (32, 0, .iconst 0, 0, 0, 0), 
  (33, 22, .istore 4, 0, 0, 0), (35, 1, .iload 4, 0, 0, 0), (37, 1, .iload_n 1, 0, 0, 0), (38, 3, .if_icmp .ge 22, 60, 0, 0), 
  (41, 1, .aload_n 0, 0, 0, 0), (42, 0, .bipush 79, 0, 0, 0), (44, 12, .invokevirtual 371, 245, 2, 13), (47, 1, .iload_n 3, 0, 0, 0), 
  (48, 1, .aload_n 0, 0, 0, 0), (49, 5, .getfield 329, 12, 46, 0), (52, 0, .iadd, 0, 0, 0), (53, 22, .istore_n 3, 0, 0, 0), 
  (54, 22, .iinc 4 1, 0, 0, 0), (57, 3, .goto (-22), 35, 0, 0), (60, 0, .iconst (-1), 0, 0, 0), (61, 22, .istore 4, 0, 0, 0), 
  (63, 0, .iconst 0, 0, 0, 0), (64, 22, .istore 5, 0, 0, 0), (66, 1, .iload 5, 0, 0, 0), (68, 1, .aload_n 0, 0, 0, 0), 
  (69, 5, .getfield 273, 12, 3, 0), (72, 3, .if_icmp .ge 42, 114, 0, 0), (75, 1, .iload 4, 0, 0, 0), (77, 0, .iconst (-1), 0, 0, 0), 
  (78, 3, .if_icmp .eq 26, 104, 0, 0), (81, 1, .aload_n 0, 0, 0, 0), (82, 5, .getfield 60, 12, 40, 0), (85, 0, .bipush 80, 0, 0, 0), 
  (87, 1, .iload 5, 0, 0, 0), (89, 0, .iadd, 0, 0, 0), (90, 7, .iaload, 0, 0, 0), (91, 1, .aload_n 0, 0, 0, 0), (92, 5, .getfield 60, 12, 40, 0), 
  (95, 0, .bipush 80, 0, 0, 0), (97, 1, .iload 4, 0, 0, 0), (99, 0, .iadd, 0, 0, 0), (100, 7, .iaload, 0, 0, 0), (101, 3, .if_icmp .le 7, 108, 0, 0), 
  (104, 1, .iload 5, 0, 0, 0), (106, 22, .istore 4, 0, 0, 0), (108, 22, .iinc 5 1, 0, 0, 0), (111, 3, .goto (-45), 66, 0, 0), 
  (114, 1, .iload_n 2, 0, 0, 0), (115, 3, .ifCond .ne 7, 122, 0, 0), (118, 1, .iload_n 3, 0, 0, 0), (119, 3, .goto 50, 169, 0, 0), 
  (122, 1, .iload_n 2, 0, 0, 0), (123, 0, .iconst 1, 0, 0, 0), (124, 3, .if_icmp .ne 18, 142, 0, 0), (127, 1, .aload_n 0, 0, 0, 0), 
  (128, 0, .bipush 79, 0, 0, 0), (130, 0, .bipush 39, 0, 0, 0), (132, 1, .aload_n 0, 0, 0, 0), (133, 5, .getfield 276, 12, 4, 0), 
  (136, 12, .invokevirtual 377, 225, 4, 13), (139, 3, .goto 30, 169, 0, 0), (142, 1, .iload_n 2, 0, 0, 0), (143, 0, .iconst 2, 0, 0, 0), 
  (144, 3, .if_icmp .ne 23, 167, 0, 0), (147, 0, .iconst 1, 0, 0, 0), (148, 1, .aload_n 0, 0, 0, 0), (149, 5, .getfield 276, 12, 4, 0), 
  (152, 0, .ishl, 0, 0, 0), (153, 0, .iconst 1, 0, 0, 0), (154, 0, .isub, 0, 0, 0), (155, 1, .aload_n 0, 0, 0, 0), (156, 0, .bipush 79, 0, 0, 0), 
  (158, 12, .invokevirtual 311, 222, 2, 13), (161, 0, .iconst (-1), 0, 0, 0), (162, 0, .ixor, 0, 0, 0), (163, 0, .iand, 0, 0, 0), 
  (164, 3, .goto 5, 169, 0, 0), (167, 1, .iload 4, 0, 0, 0), (169, 13, .ireturn, 0, 0, 0)]
/-- TemperDownsModel.when(II)I -/
noncomputable def zk273 : List (Nat × zJ) := [
  (0, 1, .aload_n 0, 0, 0, 0), (1, 0, .iconst 0, 0, 0, 0), (2, 6, .putfield 102, 12, 0, 0), (5, 1, .aload_n 0, 0, 0, 0), (6, 1, .iload_n 1, 0, 0, 0), 
  (7, 12, .invokevirtual 383, 234, 2, 13), (10, 3, .ifCond .eq 12, 22, 0, 0), (13, 1, .aload_n 0, 0, 0, 0), (14, 1, .iload_n 2, 0, 0, 0), 
  (15, 0, .iconst 1, 0, 0, 0), (16, 12, .invokevirtual 386, 235, 3, 13), (19, 3, .ifCond .ne 5, 24, 0, 0), (22, 0, .iconst 0, 0, 0, 0), 
  (23, 13, .ireturn, 0, 0, 0), (24, 1, .aload_n 0, 0, 0, 0), (25, 12, .invokevirtual 413, 266, 1, 13), (28, 0, .iconst 1, 0, 0, 0), 
  (29, 22, .istore_n 3, 0, 0, 0), (30, 1, .iload_n 3, 0, 0, 0), (31, 0, .bipush 60, 0, 0, 0), (33, 3, .if_icmp .gt 40, 73, 0, 0), 
  (36, 1, .aload_n 0, 0, 0, 0), (37, 0, .bipush 79, 0, 0, 0), (39, 12, .invokevirtual 371, 245, 2, 13), (42, 1, .iload_n 2, 0, 0, 0), 
  (43, 3, .ifCond .ne 10, 53, 0, 0), (46, 1, .aload_n 0, 0, 0, 0), (47, 5, .getfield 350, 12, 47, 0), (50, 3, .goto 7, 57, 0, 0), 
  (53, 1, .aload_n 0, 0, 0, 0), (54, 5, .getfield 353, 12, 48, 0), (57, 1, .iload_n 1, 0, 0, 0), (58, 0, .ishr, 0, 0, 0), (59, 0, .iconst 1, 0, 0, 0), 
  (60, 0, .iand, 0, 0, 0), (61, 0, .iconst 1, 0, 0, 0), (62, 3, .if_icmp .ne 5, 67, 0, 0), (65, 1, .iload_n 3, 0, 0, 0), (66, 13, .ireturn, 0, 0, 0), 
  (67, 22, .iinc 3 1, 0, 0, 0), (70, 3, .goto (-40), 30, 0, 0), (73, 0, .iconst (-1), 0, 0, 0), (74, 13, .ireturn, 0, 0, 0)]
/-- TemperDownsModel.ahead(II)I -/
noncomputable def zk274 : List (Nat × zJ) := [
  (0, 1, .aload_n 0, 0, 0, 0), (1, 0, .iconst 0, 0, 0, 0), (2, 6, .putfield 102, 12, 0, 0), (5, 1, .aload_n 0, 0, 0, 0), (6, 1, .iload_n 2, 0, 0, 0), 
  (7, 0, .iconst 1, 0, 0, 0), (8, 12, .invokevirtual 386, 235, 3, 13), (11, 3, .ifCond .eq 21, 32, 0, 0), (14, 1, .aload_n 0, 0, 0, 0), 
  (15, 1, .iload_n 1, 0, 0, 0), (16, 1, .iload_n 2, 0, 0, 0), (17, 3, .ifCond .ne 7, 24, 0, 0), (20, 0, .iconst 1, 0, 0, 0), 
  (21, 3, .goto 4, 25, 0, 0), (24, 0, .iconst 0, 0, 0, 0), (25, 0, .iconst 2, 0, 0, 0), (26, 12, .invokevirtual 419, 264, 4, 13), 
  (29, 3, .ifCond .ne 5, 34, 0, 0), (32, 0, .iconst 0, 0, 0, 0), (33, 13, .ireturn, 0, 0, 0), (34, 0, .iconst 0, 0, 0, 0), 
  (35, 22, .istore_n 3, 0, 0, 0), (36, 1, .aload_n 0, 0, 0, 0), (37, 12, .invokevirtual 413, 266, 1, 13), (40, 0, .iconst 0, 0, 0, 0), 
  (41, 22, .istore 4, 0, 0, 0), (43, 1, .iload 4, 0, 0, 0), (45, 1, .iload_n 1, 0, 0, 0), (46, 3, .if_icmp .ge 37, 83, 0, 0), 
  (49, 1, .aload_n 0, 0, 0, 0), (50, 0, .bipush 79, 0, 0, 0), (52, 12, .invokevirtual 371, 245, 2, 13), (55, 1, .iload_n 3, 0, 0, 0), 
  (56, 1, .aload_n 0, 0, 0, 0), (57, 5, .getfield 326, 12, 45, 0), (60, 3, .ifCond .ne 14, 74, 0, 0), (63, 1, .aload_n 0, 0, 0, 0), 
  (64, 5, .getfield 353, 12, 48, 0), (67, 3, .ifCond .ne 7, 74, 0, 0), (70, 0, .iconst 1, 0, 0, 0), (71, 3, .goto 4, 75, 0, 0), 
  (74, 0, .iconst 0, 0, 0, 0), (75, 0, .iadd, 0, 0, 0), (76, 22, .istore_n 3, 0, 0, 0), (77, 22, .iinc 4 1, 0, 0, 0), (80, 3, .goto (-37), 43, 0, 0), 
  (83, 0, .iconst (-1), 0, 0, 0), (84, 22, .istore 4, 0, 0, 0), (86, 0, .iconst 0, 0, 0, 0), (87, 22, .istore 5, 0, 0, 0), (89, 1, .iload 5, 0, 0, 0), 
  (91, 1, .aload_n 0, 0, 0, 0), (92, 5, .getfield 276, 12, 4, 0), (95, 3, .if_icmp .ge 46, 141, 0, 0), (98, 1, .aload_n 0, 0, 0, 0), 
  (99, 5, .getfield 60, 12, 40, 0), (102, 0, .bipush 118, 0, 0, 0), (104, 1, .iload 5, 0, 0, 0), (106, 0, .iadd, 0, 0, 0), (107, 7, .iaload, 0, 0, 0), 
  (108, 1, .iload 4, 0, 0, 0), (110, 0, .iconst (-1), 0, 0, 0), (111, 3, .if_icmp .ne 7, 118, 0, 0), (114, 0, .iconst 0, 0, 0, 0), 
  (115, 3, .goto 13, 128, 0, 0), (118, 1, .aload_n 0, 0, 0, 0), (119, 5, .getfield 60, 12, 40, 0), (122, 0, .bipush 118, 0, 0, 0), 
  (124, 1, .iload 4, 0, 0, 0), (126, 0, .iadd, 0, 0, 0), (127, 7, .iaload, 0, 0, 0), (128, 3, .if_icmp .le 7, 135, 0, 0), (131, 1, .iload 5, 0, 0, 0), 
  (133, 22, .istore 4, 0, 0, 0), (135, 22, .iinc 5 1, 0, 0, 0), (138, 3, .goto (-49), 89, 0, 0), (141, 1, .iload_n 2, 0, 0, 0), 
  (142, 3, .ifCond .ne 7, 149, 0, 0), (145, 1, .iload_n 3, 0, 0, 0), (146, 3, .goto 5, 151, 0, 0), (149, 1, .iload 4, 0, 0, 0), 
  (151, 13, .ireturn, 0, 0, 0)]
/-- TemperDownsModel.stays(II)I -/
noncomputable def zk275 : List (Nat × zJ) := [
  (0, 1, .aload_n 0, 0, 0, 0), (1, 0, .iconst 0, 0, 0, 0), (2, 6, .putfield 102, 12, 0, 0), (5, 1, .aload_n 0, 0, 0, 0), (6, 1, .iload_n 1, 0, 0, 0), 
  (7, 12, .invokevirtual 383, 234, 2, 13), (10, 3, .ifCond .eq 13, 23, 0, 0), (13, 1, .aload_n 0, 0, 0, 0), (14, 1, .iload_n 2, 0, 0, 0), 
  (15, 0, .iconst 1, 0, 0, 0), (16, 0, .iconst 2, 0, 0, 0), (17, 12, .invokevirtual 419, 264, 4, 13), (20, 3, .ifCond .ne 5, 25, 0, 0), 
  (23, 0, .iconst 0, 0, 0, 0), (24, 13, .ireturn, 0, 0, 0), (25, 0, .iconst 0, 0, 0, 0), (26, 22, .istore_n 3, 0, 0, 0), (27, 1, .aload_n 0, 0, 0, 0), 
  (28, 12, .invokevirtual 413, 266, 1, 13), (31, 0, .iconst 0, 0, 0, 0), (32, 22, .istore 4, 0, 0, 0), (34, 1, .iload 4, 0, 0, 0), 
  (36, 1, .iload_n 2, 0, 0, 0), (37, 3, .if_icmp .ge 28, 65, 0, 0), (40, 1, .aload_n 0, 0, 0, 0), (41, 0, .bipush 79, 0, 0, 0), 
  (43, 12, .invokevirtual 371, 245, 2, 13), (46, 1, .iload_n 3, 0, 0, 0), (47, 1, .aload_n 0, 0, 0, 0), (48, 0, .bipush 79, 0, 0, 0), 
  (50, 1, .iload_n 1, 0, 0, 0), (51, 12, .invokevirtual 389, 236, 3, 13), (54, 12, .invokestatic 332, 228, 1, 0), (57, 0, .iadd, 0, 0, 0), 
  (58, 22, .istore_n 3, 0, 0, 0), (59, 22, .iinc 4 1, 0, 0, 0), (62, 3, .goto (-28), 34, 0, 0), (65, 1, .iload_n 3, 0, 0, 0), 
  (66, 13, .ireturn, 0, 0, 0)]
/-- TemperDownsModel.toGuard(II)I -/
noncomputable def zk276 : List (Nat × zJ) := [
  (0, 1, .aload_n 0, 0, 0, 0), (1, 0, .iconst 0, 0, 0, 0), (2, 6, .putfield 102, 12, 0, 0), (5, 1, .aload_n 0, 0, 0, 0), (6, 1, .iload_n 1, 0, 0, 0), 
  (7, 12, .invokevirtual 392, 239, 2, 13), (10, 3, .ifCond .eq 16, 26, 0, 0), (13, 1, .aload_n 0, 0, 0, 0), (14, 1, .iload_n 2, 0, 0, 0), 
  (15, 12, .invokevirtual 392, 239, 2, 13), (18, 3, .ifCond .eq 8, 26, 0, 0), (21, 1, .iload_n 1, 0, 0, 0), (22, 1, .iload_n 2, 0, 0, 0), 
  (23, 3, .if_icmp .ne 16, 39, 0, 0), (26, 1, .aload_n 0, 0, 0, 0), (27, 5, .getfield 102, 12, 0, 0), (30, 3, .ifCond .ne 7, 37, 0, 0), 
  (33, 0, .iconst (-1), 0, 0, 0), (34, 3, .goto 4, 38, 0, 0), (37, 0, .iconst 0, 0, 0, 0), (38, 13, .ireturn, 0, 0, 0), (39, 1, .aload_n 0, 0, 0, 0), 
  (40, 0, .iconst 0, 0, 0, 0), (41, 1, .iload_n 1, 0, 0, 0), (42, 12, .invokevirtual 303, 223, 3, 13), (45, 3, .ifCond .eq 5, 50, 0, 0), 
  (48, 0, .iconst 0, 0, 0, 0), (49, 13, .ireturn, 0, 0, 0), (50, 0, .iconst 1, 0, 0, 0), (51, 1, .aload_n 0, 0, 0, 0), 
  (52, 5, .getfield 276, 12, 4, 0), (55, 0, .ishl, 0, 0, 0), (56, 0, .iconst 1, 0, 0, 0), (57, 0, .isub, 0, 0, 0), (58, 0, .iconst 1, 0, 0, 0), 
  (59, 1, .iload_n 1, 0, 0, 0), (60, 0, .ishl, 0, 0, 0), (61, 0, .iconst 1, 0, 0, 0), (62, 1, .iload_n 2, 0, 0, 0), (63, 0, .ishl, 0, 0, 0), 
  (64, 0, .ior, 0, 0, 0), (65, 0, .iconst (-1), 0, 0, 0), (66, 0, .ixor, 0, 0, 0), (67, 0, .iand, 0, 0, 0), (68, 22, .istore_n 3, 0, 0, 0), 
  (69, 0, .iconst (-1), 0, 0, 0), (70, 22, .istore 4, 0, 0, 0), (72, 0, .iconst 0, 0, 0, 0), (73, 22, .istore 5, 0, 0, 0), (75, 1, .iload 5, 0, 0, 0), 
  (77, 0, .iconst 1, 0, 0, 0), (78, 1, .aload_n 0, 0, 0, 0), (79, 5, .getfield 276, 12, 4, 0), (82, 0, .ishl, 0, 0, 0), 
  (83, 3, .if_icmp .ge 69, 152, 0, 0), (86, 1, .iload 5, 0, 0, 0), (88, 1, .iload_n 3, 0, 0, 0), (89, 0, .iconst (-1), 0, 0, 0), 
  (90, 0, .ixor, 0, 0, 0), (91, 0, .iand, 0, 0, 0), (92, 3, .ifCond .ne 54, 146, 0, 0), (95, 1, .iload 4, 0, 0, 0), (97, 0, .iconst (-1), 0, 0, 0), 
  (98, 3, .if_icmp .eq 19, 117, 0, 0), (101, 1, .iload 5, 0, 0, 0), (103, 12, .invokestatic 332, 228, 1, 0), (106, 1, .iload 4, 0, 0, 0), 
  (108, 12, .invokestatic 332, 228, 1, 0), (111, 3, .if_icmp .lt 6, 117, 0, 0), (114, 3, .goto 32, 146, 0, 0), (117, 1, .aload_n 0, 0, 0, 0), 
  (118, 0, .iconst 0, 0, 0, 0), (119, 0, .iconst 1, 0, 0, 0), (120, 1, .iload_n 1, 0, 0, 0), (121, 0, .ishl, 0, 0, 0), (122, 1, .aload_n 0, 0, 0, 0), 
  (123, 0, .iconst 0, 0, 0, 0), (124, 12, .invokevirtual 317, 227, 2, 13), (127, 1, .iload 5, 0, 0, 0), (129, 0, .iconst (-1), 0, 0, 0), 
  (130, 0, .ixor, 0, 0, 0), (131, 0, .iand, 0, 0, 0), (132, 12, .invokevirtual 320, 229, 4, 13), (135, 1, .iload_n 2, 0, 0, 0), 
  (136, 0, .ishr, 0, 0, 0), (137, 0, .iconst 1, 0, 0, 0), (138, 0, .iand, 0, 0, 0), (139, 3, .ifCond .ne 7, 146, 0, 0), (142, 1, .iload 5, 0, 0, 0), 
  (144, 22, .istore 4, 0, 0, 0), (146, 22, .iinc 5 1, 0, 0, 0), (149, 3, .goto (-74), 75, 0, 0), (152, 1, .iload 4, 0, 0, 0), 
  (154, 13, .ireturn, 0, 0, 0)]
/-- TemperDownsModel.fire(II)I -/
noncomputable def zk277 : List (Nat × zJ) := [
  (0, 1, .aload_n 0, 0, 0, 0), (1, 0, .iconst 0, 0, 0, 0), (2, 6, .putfield 102, 12, 0, 0), (5, 1, .aload_n 0, 0, 0, 0), (6, 1, .iload_n 1, 0, 0, 0), 
  (7, 12, .invokevirtual 392, 239, 2, 13), (10, 3, .ifCond .eq 12, 22, 0, 0), (13, 1, .aload_n 0, 0, 0, 0), (14, 1, .iload_n 2, 0, 0, 0), 
  (15, 0, .iconst 1, 0, 0, 0), (16, 12, .invokevirtual 386, 235, 3, 13), (19, 3, .ifCond .ne 5, 24, 0, 0), (22, 0, .iconst 0, 0, 0, 0), 
  (23, 13, .ireturn, 0, 0, 0), (24, 0, .iconst 0, 0, 0, 0), (25, 22, .istore_n 3, 0, 0, 0), (26, 1, .aload_n 0, 0, 0, 0), 
  (27, 5, .getfield 60, 12, 40, 0), (30, 0, .bipush 29, 0, 0, 0), (32, 1, .iload_n 1, 0, 0, 0), (33, 0, .iadd, 0, 0, 0), (34, 7, .iaload, 0, 0, 0), 
  (35, 22, .istore 4, 0, 0, 0), (37, 0, .iconst 1, 0, 0, 0), (38, 22, .istore 5, 0, 0, 0), (40, 1, .iload 5, 0, 0, 0), (42, 1, .aload_n 0, 0, 0, 0), 
  (43, 5, .getfield 7, 12, 1, 0), (46, 1, .aload_n 0, 0, 0, 0), (47, 5, .getfield 13, 12, 2, 0), (50, 0, .imul, 0, 0, 0), 
  (51, 3, .if_icmp .ge 56, 107, 0, 0), (54, 1, .aload_n 0, 0, 0, 0), (55, 1, .iload_n 1, 0, 0, 0), (56, 1, .iload 5, 0, 0, 0), 
  (58, 12, .invokevirtual 428, 278, 3, 13), (61, 1, .aload_n 0, 0, 0, 0), (62, 1, .iload_n 1, 0, 0, 0), (63, 1, .iload_n 3, 0, 0, 0), 
  (64, 12, .invokevirtual 428, 278, 3, 13), (67, 0, .isub, 0, 0, 0), (68, 22, .istore 6, 0, 0, 0), (70, 1, .iload 6, 0, 0, 0), 
  (72, 3, .ifCond .lt 26, 98, 0, 0), (75, 1, .iload 6, 0, 0, 0), (77, 3, .ifCond .ne 24, 101, 0, 0), (80, 1, .aload_n 0, 0, 0, 0), 
  (81, 1, .iload 5, 0, 0, 0), (83, 1, .iload 4, 0, 0, 0), (85, 12, .invokevirtual 300, 231, 3, 13), (88, 1, .aload_n 0, 0, 0, 0), 
  (89, 1, .iload_n 3, 0, 0, 0), (90, 1, .iload 4, 0, 0, 0), (92, 12, .invokevirtual 300, 231, 3, 13), (95, 3, .if_icmp .ge 6, 101, 0, 0), 
  (98, 1, .iload 5, 0, 0, 0), (100, 22, .istore_n 3, 0, 0, 0), (101, 22, .iinc 5 1, 0, 0, 0), (104, 3, .goto (-64), 40, 0, 0), 
  (107, 1, .iload_n 2, 0, 0, 0), (108, 3, .ifCond .ne 7, 115, 0, 0), (111, 1, .iload_n 3, 0, 0, 0), (112, 3, .goto 9, 121, 0, 0), 
  (115, 1, .aload_n 0, 0, 0, 0), (116, 1, .iload_n 1, 0, 0, 0), (117, 1, .iload_n 3, 0, 0, 0), (118, 12, .invokevirtual 428, 278, 3, 13), 
  (121, 13, .ireturn, 0, 0, 0)]
/-- TemperDownsModel.homesBy(II)I -/
noncomputable def zk278 : List (Nat × zJ) := [
  (0, 0, .iconst 0, 0, 0, 0), (1, 22, .istore_n 3, 0, 0, 0), (2, 0, .iconst 0, 0, 0, 0), (3, 22, .istore 4, 0, 0, 0), (5, 1, .iload 4, 0, 0, 0), 
  (7, 1, .aload_n 0, 0, 0, 0), (8, 5, .getfield 273, 12, 3, 0), (11, 3, .if_icmp .ge 44, 55, 0, 0), (14, 1, .iload_n 3, 0, 0, 0), 
  (15, 1, .aload_n 0, 0, 0, 0), (16, 1, .iload_n 2, 0, 0, 0), (17, 1, .aload_n 0, 0, 0, 0), (18, 5, .getfield 22, 12, 7, 0), 
  (21, 1, .iload 4, 0, 0, 0), (23, 7, .iaload, 0, 0, 0), (24, 12, .invokevirtual 300, 231, 3, 13), (27, 1, .aload_n 0, 0, 0, 0), 
  (28, 5, .getfield 60, 12, 40, 0), (31, 0, .bipush 39, 0, 0, 0), (33, 1, .iload_n 1, 0, 0, 0), (34, 0, .iadd, 0, 0, 0), (35, 7, .iaload, 0, 0, 0), 
  (36, 0, .bipush 10, 0, 0, 0), (38, 0, .idiv, 0, 0, 0), (39, 3, .if_icmp .gt 7, 46, 0, 0), (42, 0, .iconst 1, 0, 0, 0), (43, 3, .goto 4, 47, 0, 0), 
  (46, 0, .iconst 0, 0, 0, 0), (47, 0, .iadd, 0, 0, 0), (48, 22, .istore_n 3, 0, 0, 0), (49, 22, .iinc 4 1, 0, 0, 0), (52, 3, .goto (-47), 5, 0, 0), 
  (55, 1, .iload_n 3, 0, 0, 0), (56, 13, .ireturn, 0, 0, 0)]
/-- TemperDownsModel.cell(II)I -/
noncomputable def zk279 : List (Nat × zJ) := [
  (0, 1, .aload_n 0, 0, 0, 0), (1, 0, .iconst 0, 0, 0, 0), (2, 6, .putfield 102, 12, 0, 0), (5, 1, .aload_n 0, 0, 0, 0), (6, 1, .iload_n 1, 0, 0, 0), 
  (7, 12, .invokevirtual 410, 260, 2, 13), (10, 3, .ifCond .eq 12, 22, 0, 0), (13, 1, .aload_n 0, 0, 0, 0), (14, 1, .iload_n 2, 0, 0, 0), 
  (15, 0, .iconst 1, 0, 0, 0), (16, 12, .invokevirtual 386, 235, 3, 13), (19, 3, .ifCond .ne 5, 24, 0, 0), (22, 0, .iconst 0, 0, 0, 0), 
  (23, 13, .ireturn, 0, 0, 0), (24, 0, .iconst 0, 0, 0, 0), (25, 22, .istore_n 3, 0, 0, 0), (26, 0, .iconst (-1), 0, 0, 0), 
  (27, 22, .istore 4, 0, 0, 0), (29, 0, .iconst 0, 0, 0, 0), (30, 22, .istore 5, 0, 0, 0), (32, 1, .iload 5, 0, 0, 0), (34, 1, .aload_n 0, 0, 0, 0), 
  (35, 5, .getfield 276, 12, 4, 0), (38, 3, .if_icmp .ge 84, 122, 0, 0), (41, 1, .iload_n 3, 0, 0, 0), (42, 1, .aload_n 0, 0, 0, 0), 
  (43, 0, .iconst 0, 0, 0, 0), (44, 1, .iload 5, 0, 0, 0), (46, 12, .invokevirtual 303, 223, 3, 13), (49, 3, .ifCond .ne 21, 70, 0, 0), 
  (52, 1, .aload_n 0, 0, 0, 0), (53, 0, .iconst 0, 0, 0, 0), (54, 1, .iload 5, 0, 0, 0), (56, 1, .iload_n 1, 0, 0, 0), 
  (57, 12, .invokevirtual 307, 230, 4, 13), (60, 3, .ifCond .eq 10, 70, 0, 0), (63, 0, .iconst 1, 0, 0, 0), (64, 1, .iload 5, 0, 0, 0), 
  (66, 0, .ishl, 0, 0, 0), (67, 3, .goto 4, 71, 0, 0), (70, 0, .iconst 0, 0, 0, 0), (71, 0, .ior, 0, 0, 0), (72, 22, .istore_n 3, 0, 0, 0), 
  (73, 1, .iload 4, 0, 0, 0), (75, 0, .iconst (-1), 0, 0, 0), (76, 3, .if_icmp .eq 36, 112, 0, 0), (79, 1, .aload_n 0, 0, 0, 0), 
  (80, 1, .aload_n 0, 0, 0, 0), (81, 5, .getfield 60, 12, 40, 0), (84, 0, .bipush 29, 0, 0, 0), (86, 1, .iload 5, 0, 0, 0), (88, 0, .iadd, 0, 0, 0), 
  (89, 7, .iaload, 0, 0, 0), (90, 1, .iload_n 1, 0, 0, 0), (91, 12, .invokevirtual 300, 231, 3, 13), (94, 1, .aload_n 0, 0, 0, 0), 
  (95, 1, .aload_n 0, 0, 0, 0), (96, 5, .getfield 60, 12, 40, 0), (99, 0, .bipush 29, 0, 0, 0), (101, 1, .iload 4, 0, 0, 0), (103, 0, .iadd, 0, 0, 0), 
  (104, 7, .iaload, 0, 0, 0), (105, 1, .iload_n 1, 0, 0, 0), (106, 12, .invokevirtual 300, 231, 3, 13), (109, 3, .if_icmp .ge 7, 116, 0, 0), 
  (112, 1, .iload 5, 0, 0, 0), (114, 22, .istore 4, 0, 0, 0), (116, 22, .iinc 5 1, 0, 0, 0), (119, 3, .goto (-87), 32, 0, 0), 
  (122, 1, .iload_n 2, 0, 0, 0), (123, 3, .ifCond .ne 7, 130, 0, 0), (126, 1, .iload_n 3, 0, 0, 0), (127, 3, .goto 5, 132, 0, 0), 
  (130, 1, .iload 4, 0, 0, 0), (132, 13, .ireturn, 0, 0, 0)]
/-- TemperDownsModel.pram(III)I -/
noncomputable def zk280 : List (Nat × zJ) := [
  (0, 1, .aload_n 0, 0, 0, 0), (1, 0, .iconst 0, 0, 0, 0), (2, 6, .putfield 102, 12, 0, 0), (5, 1, .aload_n 0, 0, 0, 0), (6, 1, .iload_n 1, 0, 0, 0), 
  (7, 12, .invokevirtual 410, 260, 2, 13), (10, 3, .ifCond .eq 20, 30, 0, 0), (13, 1, .aload_n 0, 0, 0, 0), (14, 1, .iload_n 2, 0, 0, 0), 
  (15, 12, .invokevirtual 410, 260, 2, 13), (18, 3, .ifCond .eq 12, 30, 0, 0), (21, 1, .aload_n 0, 0, 0, 0), (22, 1, .iload_n 3, 0, 0, 0), 
  (23, 0, .iconst 1, 0, 0, 0), (24, 12, .invokevirtual 386, 235, 3, 13), (27, 3, .ifCond .ne 5, 32, 0, 0), (30, 0, .iconst 0, 0, 0, 0), 
  (31, 13, .ireturn, 0, 0, 0), (32, 1, .aload_n 0, 0, 0, 0), (33, 1, .iload_n 2, 0, 0, 0), (34, 12, .invokevirtual 437, 281, 2, 13), 
  (37, 1, .iload_n 3, 0, 0, 0), (38, 3, .ifCond .ne 26, 64, 0, 0), (41, 1, .aload_n 0, 0, 0, 0), (42, 5, .getfield 72, 12, 49, 0), 
  (45, 1, .iload_n 1, 0, 0, 0), (46, 7, .iaload, 0, 0, 0), (47, 0, .sipush 9999, 0, 0, 0), (50, 3, .if_icmp .lt 7, 57, 0, 0), 
  (53, 0, .iconst (-1), 0, 0, 0), (54, 3, .goto 9, 63, 0, 0), (57, 1, .aload_n 0, 0, 0, 0), (58, 5, .getfield 72, 12, 49, 0), 
  (61, 1, .iload_n 1, 0, 0, 0), (62, 7, .iaload, 0, 0, 0), (63, 13, .ireturn, 0, 0, 0), (64, 0, .iconst (-1), 0, 0, 0), (65, 22, .istore 4, 0, 0, 0), 
  (67, 0, .iconst 0, 0, 0, 0), (68, 22, .istore 5, 0, 0, 0), (70, 1, .iload 5, 0, 0, 0), (72, 0, .iconst 4, 0, 0, 0), 
  (73, 3, .if_icmp .ge 95, 168, 0, 0), (76, 1, .aload_n 0, 0, 0, 0), (77, 5, .getfield 72, 12, 49, 0), (80, 1, .iload_n 1, 0, 0, 0), 
  (81, 7, .iaload, 0, 0, 0), (82, 3, .ifCond .le 86, 168, 0, 0), (85, 1, .aload_n 0, 0, 0, 0), (86, 5, .getfield 72, 12, 49, 0), 
  (89, 1, .iload_n 1, 0, 0, 0), (90, 7, .iaload, 0, 0, 0), (91, 0, .sipush 9999, 0, 0, 0), (94, 3, .if_icmp .ge 74, 168, 0, 0), 
  (97, 1, .aload_n 0, 0, 0, 0), (98, 1, .iload_n 1, 0, 0, 0), (99, 1, .iload 5, 0, 0, 0), (101, 12, .invokevirtual 434, 283, 3, 13), 
  (104, 22, .istore 6, 0, 0, 0), (106, 1, .iload 6, 0, 0, 0), (108, 0, .iconst (-1), 0, 0, 0), (109, 3, .if_icmp .eq 53, 162, 0, 0), 
  (112, 1, .aload_n 0, 0, 0, 0), (113, 1, .iload 6, 0, 0, 0), (115, 12, .invokevirtual 431, 282, 2, 13), (118, 3, .ifCond .ne 44, 162, 0, 0), 
  (121, 1, .aload_n 0, 0, 0, 0), (122, 5, .getfield 72, 12, 49, 0), (125, 1, .iload 6, 0, 0, 0), (127, 7, .iaload, 0, 0, 0), 
  (128, 1, .aload_n 0, 0, 0, 0), (129, 5, .getfield 72, 12, 49, 0), (132, 1, .iload_n 1, 0, 0, 0), (133, 7, .iaload, 0, 0, 0), 
  (134, 0, .iconst 1, 0, 0, 0), (135, 0, .isub, 0, 0, 0), (136, 3, .if_icmp .eq 6, 142, 0, 0), (139, 3, .goto 23, 162, 0, 0), 
  (142, 1, .iload 4, 0, 0, 0), (144, 0, .iconst (-1), 0, 0, 0), (145, 3, .if_icmp .ne 8, 153, 0, 0), (148, 1, .iload 6, 0, 0, 0), 
  (150, 3, .goto 10, 160, 0, 0), (153, 1, .iload 4, 0, 0, 0), (155, 1, .iload 6, 0, 0, 0), (157, 12, .invokestatic 323, 253, 2, 0), 
  (160, 22, .istore 4, 0, 0, 0), (162, 22, .iinc 5 1, 0, 0, 0), (165, 3, .goto (-95), 70, 0, 0), (168, 1, .iload 4, 0, 0, 0), 
  (170, 13, .ireturn, 0, 0, 0)]
/-- TemperDownsModel.laysFar(I)V -/
noncomputable def zk281 : List (Nat × zJ) := [
  (0, 0, .iconst 0, 0, 0, 0), (1, 22, .istore_n 2, 0, 0, 0), (2, 1, .iload_n 2, 0, 0, 0), (3, 0, .bipush 36, 0, 0, 0), 
  (5, 3, .if_icmp .ge 18, 23, 0, 0), (8, 1, .aload_n 0, 0, 0, 0), (9, 5, .getfield 72, 12, 49, 0), (12, 1, .iload_n 2, 0, 0, 0), 
  (13, 0, .sipush 9999, 0, 0, 0), (16, 8, .iastore, 0, 0, 0), (17, 22, .iinc 2 1, 0, 0, 0), (20, 3, .goto (-18), 2, 0, 0), 
  (23, 1, .aload_n 0, 0, 0, 0), (24, 5, .getfield 72, 12, 49, 0), (27, 1, .iload_n 1, 0, 0, 0), (28, 0, .iconst 0, 0, 0, 0), 
  (29, 8, .iastore, 0, 0, 0), (30, 0, .iconst 0, 0, 0, 0), (31, 22, .istore_n 2, 0, 0, 0), (32, 0, .iconst 0, 0, 0, 0), (33, 22, .istore_n 3, 0, 0, 0), 
  (34, 1, .aload_n 0, 0, 0, 0), (35, 1, .iload_n 1, 0, 0, 0), (36, 12, .invokevirtual 431, 282, 2, 13), (39, 3, .ifCond .ne 12, 51, 0, 0), 
  (42, 1, .aload_n 0, 0, 0, 0), (43, 5, .getfield 75, 12, 50, 0), (46, 0, .iconst 0, 0, 0, 0), (47, 1, .iload_n 1, 0, 0, 0), 
  (48, 8, .iastore, 0, 0, 0), (49, 0, .iconst 1, 0, 0, 0), (50, 22, .istore_n 3, 0, 0, 0), (51, 1, .iload_n 2, 0, 0, 0), (52, 1, .iload_n 3, 0, 0, 0), 
  (53, 3, .if_icmp .ge 103, 156, 0, 0), (56, 1, .aload_n 0, 0, 0, 0), (57, 5, .getfield 75, 12, 50, 0), (60, 1, .iload_n 2, 0, 0, 0), 
  (61, 7, .iaload, 0, 0, 0), (62, 22, .istore 4, 0, 0, 0), (64, 22, .iinc 2 1, 0, 0, 0), (67, 0, .iconst 0, 0, 0, 0), (68, 22, .istore 5, 0, 0, 0), 
  (70, 1, .iload 5, 0, 0, 0), (72, 0, .iconst 4, 0, 0, 0), (73, 3, .if_icmp .ge 80, 153, 0, 0), (76, 1, .aload_n 0, 0, 0, 0), 
  (77, 1, .iload 4, 0, 0, 0), (79, 1, .iload 5, 0, 0, 0), (81, 12, .invokevirtual 434, 283, 3, 13), (84, 22, .istore 6, 0, 0, 0), 
  (86, 1, .iload 6, 0, 0, 0), (88, 0, .iconst (-1), 0, 0, 0), (89, 3, .if_icmp .eq 58, 147, 0, 0), (92, 1, .aload_n 0, 0, 0, 0), 
  (93, 5, .getfield 72, 12, 49, 0), (96, 1, .iload 6, 0, 0, 0), (98, 7, .iaload, 0, 0, 0), (99, 0, .sipush 9999, 0, 0, 0), 
  (102, 3, .if_icmp .ge 6, 108, 0, 0), (105, 3, .goto 42, 147, 0, 0), (108, 1, .aload_n 0, 0, 0, 0), (109, 5, .getfield 72, 12, 49, 0), 
  (112, 1, .iload 6, 0, 0, 0), (114, 1, .aload_n 0, 0, 0, 0), (115, 5, .getfield 72, 12, 49, 0), (118, 1, .iload 4, 0, 0, 0), 
  (120, 7, .iaload, 0, 0, 0), (121, 0, .iconst 1, 0, 0, 0), (122, 0, .iadd, 0, 0, 0), (123, 8, .iastore, 0, 0, 0), (124, 1, .aload_n 0, 0, 0, 0), 
  (125, 1, .iload 6, 0, 0, 0), (127, 12, .invokevirtual 431, 282, 2, 13), (130, 3, .ifCond .eq 6, 136, 0, 0), (133, 3, .goto 14, 147, 0, 0), 
  (136, 1, .aload_n 0, 0, 0, 0), (137, 5, .getfield 75, 12, 50, 0), (140, 1, .iload_n 3, 0, 0, 0), (141, 1, .iload 6, 0, 0, 0), 
  (143, 8, .iastore, 0, 0, 0), (144, 22, .iinc 3 1, 0, 0, 0), (147, 22, .iinc 5 1, 0, 0, 0), (150, 3, .goto (-80), 70, 0, 0), 
  (153, 3, .goto (-102), 51, 0, 0), (156, 13, .return_, 0, 0, 0)]
/-- TemperDownsModel.isShut(I)Z -/
noncomputable def zk282 : List (Nat × zJ) := [
  (0, 0, .iconst 0, 0, 0, 0), (1, 22, .istore_n 2, 0, 0, 0), (2, 0, .iconst 0, 0, 0, 0), (3, 22, .istore_n 3, 0, 0, 0), (4, 1, .iload_n 3, 0, 0, 0), 
  (5, 1, .aload_n 0, 0, 0, 0), (6, 5, .getfield 276, 12, 4, 0), (9, 3, .if_icmp .ge 41, 50, 0, 0), (12, 1, .iload_n 2, 0, 0, 0), 
  (13, 3, .ifCond .ne 25, 38, 0, 0), (16, 1, .aload_n 0, 0, 0, 0), (17, 0, .iconst 0, 0, 0, 0), (18, 1, .iload_n 3, 0, 0, 0), 
  (19, 12, .invokevirtual 303, 223, 3, 13), (22, 3, .ifCond .ne 20, 42, 0, 0), (25, 1, .aload_n 0, 0, 0, 0), (26, 5, .getfield 60, 12, 40, 0), 
  (29, 0, .bipush 29, 0, 0, 0), (31, 1, .iload_n 3, 0, 0, 0), (32, 0, .iadd, 0, 0, 0), (33, 7, .iaload, 0, 0, 0), (34, 1, .iload_n 1, 0, 0, 0), 
  (35, 3, .if_icmp .ne 7, 42, 0, 0), (38, 0, .iconst 1, 0, 0, 0), (39, 3, .goto 4, 43, 0, 0), (42, 0, .iconst 0, 0, 0, 0), 
  (43, 22, .istore_n 2, 0, 0, 0), (44, 22, .iinc 3 1, 0, 0, 0), (47, 3, .goto (-43), 4, 0, 0), (50, 1, .iload_n 2, 0, 0, 0), 
  (51, 13, .ireturn, 0, 0, 0)]
/-- TemperDownsModel.beside(II)I -/
noncomputable def zk283 : List (Nat × zJ) := [
  (0, 1, .iload_n 2, 0, 0, 0), (1, 3, .ifCond .ne 22, 23, 0, 0), (4, 1, .iload_n 1, 0, 0, 0), (5, 1, .aload_n 0, 0, 0, 0), 
  (6, 5, .getfield 7, 12, 1, 0), (9, 3, .if_icmp .lt 12, 21, 0, 0), (12, 1, .iload_n 1, 0, 0, 0), (13, 1, .aload_n 0, 0, 0, 0), 
  (14, 5, .getfield 7, 12, 1, 0), (17, 0, .isub, 0, 0, 0), (18, 3, .goto 4, 22, 0, 0), (21, 0, .iconst (-1), 0, 0, 0), (22, 13, .ireturn, 0, 0, 0), 
  (23, 1, .iload_n 2, 0, 0, 0), (24, 0, .iconst 1, 0, 0, 0), (25, 3, .if_icmp .ne 26, 51, 0, 0), (28, 1, .iload_n 1, 0, 0, 0), 
  (29, 1, .aload_n 0, 0, 0, 0), (30, 5, .getfield 7, 12, 1, 0), (33, 0, .irem, 0, 0, 0), (34, 0, .iconst 1, 0, 0, 0), (35, 0, .iadd, 0, 0, 0), 
  (36, 1, .aload_n 0, 0, 0, 0), (37, 5, .getfield 7, 12, 1, 0), (40, 3, .if_icmp .ge 9, 49, 0, 0), (43, 1, .iload_n 1, 0, 0, 0), 
  (44, 0, .iconst 1, 0, 0, 0), (45, 0, .iadd, 0, 0, 0), (46, 3, .goto 4, 50, 0, 0), (49, 0, .iconst (-1), 0, 0, 0), (50, 13, .ireturn, 0, 0, 0), 
  (51, 1, .iload_n 2, 0, 0, 0), (52, 0, .iconst 2, 0, 0, 0), (53, 3, .if_icmp .ne 29, 82, 0, 0), (56, 1, .iload_n 1, 0, 0, 0), 
  (57, 1, .aload_n 0, 0, 0, 0), (58, 5, .getfield 7, 12, 1, 0), (61, 0, .idiv, 0, 0, 0), (62, 0, .iconst 1, 0, 0, 0), (63, 0, .iadd, 0, 0, 0), 
  (64, 1, .aload_n 0, 0, 0, 0), (65, 5, .getfield 13, 12, 2, 0), (68, 3, .if_icmp .ge 12, 80, 0, 0), (71, 1, .iload_n 1, 0, 0, 0), 
  (72, 1, .aload_n 0, 0, 0, 0), (73, 5, .getfield 7, 12, 1, 0), (76, 0, .iadd, 0, 0, 0), (77, 3, .goto 4, 81, 0, 0), (80, 0, .iconst (-1), 0, 0, 0), 
  (81, 13, .ireturn, 0, 0, 0), (82, 1, .iload_n 1, 0, 0, 0), (83, 1, .aload_n 0, 0, 0, 0), (84, 5, .getfield 7, 12, 1, 0), (87, 0, .irem, 0, 0, 0), 
  (88, 3, .ifCond .le 9, 97, 0, 0), (91, 1, .iload_n 1, 0, 0, 0), (92, 0, .iconst 1, 0, 0, 0), (93, 0, .isub, 0, 0, 0), (94, 3, .goto 4, 98, 0, 0), 
  (97, 0, .iconst (-1), 0, 0, 0), (98, 13, .ireturn, 0, 0, 0)]
/-- TemperDownsModel.putBy(I)I -/
noncomputable def zk284 : List (Nat × zJ) := [
  (0, 1, .aload_n 0, 0, 0, 0), (1, 0, .iconst 0, 0, 0, 0), (2, 6, .putfield 102, 12, 0, 0), (5, 1, .aload_n 0, 0, 0, 0), (6, 1, .iload_n 1, 0, 0, 0), 
  (7, 0, .iconst 1, 0, 0, 0), (8, 12, .invokevirtual 386, 235, 3, 13), (11, 3, .ifCond .ne 5, 16, 0, 0), (14, 0, .iconst 0, 0, 0, 0), 
  (15, 13, .ireturn, 0, 0, 0), (16, 1, .aload_n 0, 0, 0, 0), (17, 12, .invokevirtual 449, 285, 1, 13), (20, 0, .iconst 0, 0, 0, 0), 
  (21, 22, .istore_n 2, 0, 0, 0), (22, 0, .iconst 0, 0, 0, 0), (23, 22, .istore_n 3, 0, 0, 0), (24, 0, .iconst 0, 0, 0, 0), 
  (25, 22, .istore 4, 0, 0, 0), (27, 1, .iload 4, 0, 0, 0), (29, 1, .aload_n 0, 0, 0, 0), (30, 5, .getfield 273, 12, 3, 0), 
  (33, 3, .if_icmp .ge 51, 84, 0, 0), (36, 1, .aload_n 0, 0, 0, 0), (37, 5, .getfield 81, 12, 52, 0), (40, 1, .iload 4, 0, 0, 0), 
  (42, 7, .iaload, 0, 0, 0), (43, 0, .iconst (-1), 0, 0, 0), (44, 3, .if_icmp .ne 6, 50, 0, 0), (47, 3, .goto 31, 78, 0, 0), 
  (50, 22, .iinc 2 1, 0, 0, 0), (53, 1, .iload_n 3, 0, 0, 0), (54, 1, .aload_n 0, 0, 0, 0), (55, 5, .getfield 26, 12, 8, 0), 
  (58, 1, .aload_n 0, 0, 0, 0), (59, 5, .getfield 81, 12, 52, 0), (62, 1, .iload 4, 0, 0, 0), (64, 7, .iaload, 0, 0, 0), (65, 7, .iaload, 0, 0, 0), 
  (66, 1, .aload_n 0, 0, 0, 0), (67, 5, .getfield 60, 12, 40, 0), (70, 0, .iconst 1, 0, 0, 0), (71, 1, .iload 4, 0, 0, 0), (73, 0, .iadd, 0, 0, 0), 
  (74, 7, .iaload, 0, 0, 0), (75, 0, .isub, 0, 0, 0), (76, 0, .iadd, 0, 0, 0), (77, 22, .istore_n 3, 0, 0, 0), (78, 22, .iinc 4 1, 0, 0, 0), 
  (81, 3, .goto (-54), 27, 0, 0), (84, 1, .iload_n 1, 0, 0, 0), (85, 3, .ifCond .ne 7, 92, 0, 0), (88, 1, .iload_n 2, 0, 0, 0), 
  (89, 3, .goto 4, 93, 0, 0), (92, 1, .iload_n 3, 0, 0, 0), (93, 13, .ireturn, 0, 0, 0)]
/-- TemperDownsModel.laysTaking()V -/
noncomputable def zk285 : List (Nat × zJ) := [
  (0, 1, .aload_n 0, 0, 0, 0), (1, 12, .invokevirtual 446, 286, 1, 13), (4, 0, .iconst 0, 0, 0, 0), (5, 22, .istore_n 1, 0, 0, 0), 
  (6, 0, .iconst 0, 0, 0, 0), (7, 22, .istore_n 2, 0, 0, 0), (8, 1, .iload_n 2, 0, 0, 0), (9, 1, .aload_n 0, 0, 0, 0), 
  (10, 5, .getfield 273, 12, 3, 0), (13, 3, .if_icmp .ge 93, 106, 0, 0), (16, 1, .aload_n 0, 0, 0, 0), (17, 5, .getfield 81, 12, 52, 0), 
  (20, 1, .iload_n 2, 0, 0, 0), (21, 0, .iconst (-1), 0, 0, 0), (22, 8, .iastore, 0, 0, 0), (23, 1, .aload_n 0, 0, 0, 0), 
  (24, 5, .getfield 276, 12, 4, 0), (27, 0, .iconst 1, 0, 0, 0), (28, 0, .isub, 0, 0, 0), (29, 22, .istore_n 3, 0, 0, 0), (30, 1, .iload_n 3, 0, 0, 0), 
  (31, 3, .ifCond .lt 48, 79, 0, 0), (34, 1, .aload_n 0, 0, 0, 0), (35, 1, .iload_n 2, 0, 0, 0), (36, 1, .iload_n 3, 0, 0, 0), 
  (37, 1, .iload_n 1, 0, 0, 0), (38, 12, .invokevirtual 440, 287, 4, 13), (41, 3, .ifCond .eq 32, 73, 0, 0), (44, 1, .aload_n 0, 0, 0, 0), 
  (45, 1, .iload_n 2, 0, 0, 0), (46, 1, .iload_n 3, 0, 0, 0), (47, 1, .iload_n 1, 0, 0, 0), (48, 12, .invokevirtual 443, 288, 4, 13), 
  (51, 1, .aload_n 0, 0, 0, 0), (52, 5, .getfield 78, 12, 51, 0), (55, 0, .sipush 1024, 0, 0, 0), (58, 1, .iload_n 2, 0, 0, 0), 
  (59, 0, .imul, 0, 0, 0), (60, 1, .iload_n 1, 0, 0, 0), (61, 0, .iadd, 0, 0, 0), (62, 7, .iaload, 0, 0, 0), (63, 3, .if_icmp .ne 10, 73, 0, 0), 
  (66, 1, .aload_n 0, 0, 0, 0), (67, 5, .getfield 81, 12, 52, 0), (70, 1, .iload_n 2, 0, 0, 0), (71, 1, .iload_n 3, 0, 0, 0), 
  (72, 8, .iastore, 0, 0, 0), (73, 22, .iinc 3 (-1), 0, 0, 0), (76, 3, .goto (-46), 30, 0, 0), (79, 1, .aload_n 0, 0, 0, 0), 
  (80, 5, .getfield 81, 12, 52, 0), (83, 1, .iload_n 2, 0, 0, 0), (84, 7, .iaload, 0, 0, 0), (85, 0, .iconst (-1), 0, 0, 0), 
  (86, 3, .if_icmp .eq 14, 100, 0, 0), (89, 1, .iload_n 1, 0, 0, 0), (90, 0, .iconst 1, 0, 0, 0), (91, 1, .aload_n 0, 0, 0, 0), 
  (92, 5, .getfield 81, 12, 52, 0), (95, 1, .iload_n 2, 0, 0, 0), (96, 7, .iaload, 0, 0, 0), (97, 0, .ishl, 0, 0, 0), (98, 0, .ior, 0, 0, 0), 
  (99, 22, .istore_n 1, 0, 0, 0), (100, 22, .iinc 2 1, 0, 0, 0), (103, 3, .goto (-95), 8, 0, 0), (106, 13, .return_, 0, 0, 0)]
/-- TemperDownsModel.laysPuts()V -/
noncomputable def zk286 : List (Nat × zJ) := [
  (0, 0, .iconst 0, 0, 0, 0), (1, 22, .istore_n 1, 0, 0, 0), (2, 1, .iload_n 1, 0, 0, 0), (3, 0, .sipush 1024, 0, 0, 0), 
  (6, 3, .if_icmp .ge 25, 31, 0, 0), (9, 1, .aload_n 0, 0, 0, 0), (10, 5, .getfield 78, 12, 51, 0), (13, 0, .sipush 1024, 0, 0, 0), 
  (16, 1, .aload_n 0, 0, 0, 0), (17, 5, .getfield 273, 12, 3, 0), (20, 0, .imul, 0, 0, 0), (21, 1, .iload_n 1, 0, 0, 0), (22, 0, .iadd, 0, 0, 0), 
  (23, 0, .iconst 0, 0, 0, 0), (24, 8, .iastore, 0, 0, 0), (25, 22, .iinc 1 1, 0, 0, 0), (28, 3, .goto (-26), 2, 0, 0), (31, 1, .aload_n 0, 0, 0, 0), 
  (32, 5, .getfield 273, 12, 3, 0), (35, 0, .iconst 1, 0, 0, 0), (36, 0, .isub, 0, 0, 0), (37, 22, .istore_n 1, 0, 0, 0), (38, 1, .iload_n 1, 0, 0, 0), 
  (39, 3, .ifCond .lt 101, 140, 0, 0), (42, 0, .iconst 0, 0, 0, 0), (43, 22, .istore_n 2, 0, 0, 0), (44, 1, .iload_n 2, 0, 0, 0), 
  (45, 0, .iconst 1, 0, 0, 0), (46, 1, .aload_n 0, 0, 0, 0), (47, 5, .getfield 276, 12, 4, 0), (50, 0, .ishl, 0, 0, 0), 
  (51, 3, .if_icmp .ge 83, 134, 0, 0), (54, 0, .sipush 10000, 0, 0, 0), (57, 1, .aload_n 0, 0, 0, 0), (58, 5, .getfield 78, 12, 51, 0), 
  (61, 0, .sipush 1024, 0, 0, 0), (64, 1, .iload_n 1, 0, 0, 0), (65, 0, .iconst 1, 0, 0, 0), (66, 0, .iadd, 0, 0, 0), (67, 0, .imul, 0, 0, 0), 
  (68, 1, .iload_n 2, 0, 0, 0), (69, 0, .iadd, 0, 0, 0), (70, 7, .iaload, 0, 0, 0), (71, 0, .iadd, 0, 0, 0), (72, 22, .istore_n 3, 0, 0, 0), 
  (73, 0, .iconst 0, 0, 0, 0), (74, 22, .istore 4, 0, 0, 0), (76, 1, .iload 4, 0, 0, 0), (78, 1, .aload_n 0, 0, 0, 0), 
  (79, 5, .getfield 276, 12, 4, 0), (82, 3, .if_icmp .ge 33, 115, 0, 0), (85, 1, .aload_n 0, 0, 0, 0), (86, 1, .iload_n 1, 0, 0, 0), 
  (87, 1, .iload 4, 0, 0, 0), (89, 1, .iload_n 2, 0, 0, 0), (90, 12, .invokevirtual 440, 287, 4, 13), (93, 3, .ifCond .eq 16, 109, 0, 0), 
  (96, 1, .iload_n 3, 0, 0, 0), (97, 1, .aload_n 0, 0, 0, 0), (98, 1, .iload_n 1, 0, 0, 0), (99, 1, .iload 4, 0, 0, 0), (101, 1, .iload_n 2, 0, 0, 0), 
  (102, 12, .invokevirtual 443, 288, 4, 13), (105, 12, .invokestatic 323, 253, 2, 0), (108, 22, .istore_n 3, 0, 0, 0), (109, 22, .iinc 4 1, 0, 0, 0), 
  (112, 3, .goto (-36), 76, 0, 0), (115, 1, .aload_n 0, 0, 0, 0), (116, 5, .getfield 78, 12, 51, 0), (119, 0, .sipush 1024, 0, 0, 0), 
  (122, 1, .iload_n 1, 0, 0, 0), (123, 0, .imul, 0, 0, 0), (124, 1, .iload_n 2, 0, 0, 0), (125, 0, .iadd, 0, 0, 0), (126, 1, .iload_n 3, 0, 0, 0), 
  (127, 8, .iastore, 0, 0, 0), (128, 22, .iinc 2 1, 0, 0, 0), (131, 3, .goto (-87), 44, 0, 0), (134, 22, .iinc 1 (-1), 0, 0, 0), 
  (137, 3, .goto (-99), 38, 0, 0), (140, 13, .return_, 0, 0, 0)]
/-- TemperDownsModel.canPut(III)Z -/
noncomputable def zk287 : List (Nat × zJ) := [
  (0, 1, .iload_n 3, 0, 0, 0), (1, 1, .iload_n 2, 0, 0, 0), (2, 0, .ishr, 0, 0, 0), (3, 0, .iconst 1, 0, 0, 0), (4, 0, .iand, 0, 0, 0), 
  (5, 3, .ifCond .ne 44, 49, 0, 0), (8, 1, .aload_n 0, 0, 0, 0), (9, 5, .getfield 60, 12, 40, 0), (12, 0, .iconst 1, 0, 0, 0), 
  (13, 1, .iload_n 1, 0, 0, 0), (14, 0, .iadd, 0, 0, 0), (15, 7, .iaload, 0, 0, 0), (16, 3, .ifCond .le 33, 49, 0, 0), (19, 1, .aload_n 0, 0, 0, 0), 
  (20, 0, .iconst 0, 0, 0, 0), (21, 1, .iload_n 2, 0, 0, 0), (22, 12, .invokevirtual 303, 223, 3, 13), (25, 3, .ifCond .eq 24, 49, 0, 0), 
  (28, 1, .aload_n 0, 0, 0, 0), (29, 5, .getfield 26, 12, 8, 0), (32, 1, .iload_n 2, 0, 0, 0), (33, 7, .iaload, 0, 0, 0), (34, 1, .aload_n 0, 0, 0, 0), 
  (35, 5, .getfield 60, 12, 40, 0), (38, 0, .iconst 1, 0, 0, 0), (39, 1, .iload_n 1, 0, 0, 0), (40, 0, .iadd, 0, 0, 0), (41, 7, .iaload, 0, 0, 0), 
  (42, 3, .if_icmp .lt 7, 49, 0, 0), (45, 0, .iconst 1, 0, 0, 0), (46, 3, .goto 4, 50, 0, 0), (49, 0, .iconst 0, 0, 0, 0), (50, 13, .ireturn, 0, 0, 0)]
/-- TemperDownsModel.puts0(III)I -/
noncomputable def zk288 : List (Nat × zJ) := [
  (0, 1, .aload_n 0, 0, 0, 0), (1, 5, .getfield 26, 12, 8, 0), (4, 1, .iload_n 2, 0, 0, 0), (5, 7, .iaload, 0, 0, 0), (6, 1, .aload_n 0, 0, 0, 0), 
  (7, 5, .getfield 78, 12, 51, 0), (10, 0, .sipush 1024, 0, 0, 0), (13, 1, .iload_n 1, 0, 0, 0), (14, 0, .iconst 1, 0, 0, 0), (15, 0, .iadd, 0, 0, 0), 
  (16, 0, .imul, 0, 0, 0), (17, 1, .iload_n 3, 0, 0, 0), (18, 0, .iconst 1, 0, 0, 0), (19, 1, .iload_n 2, 0, 0, 0), (20, 0, .ishl, 0, 0, 0), 
  (21, 0, .ior, 0, 0, 0), (22, 0, .iadd, 0, 0, 0), (23, 7, .iaload, 0, 0, 0), (24, 0, .iadd, 0, 0, 0), (25, 13, .ireturn, 0, 0, 0)]
/-- TemperDownsModel.put(I)I -/
noncomputable def zk289 : List (Nat × zJ) := [
  (0, 1, .aload_n 0, 0, 0, 0), (1, 0, .iconst 0, 0, 0, 0), (2, 6, .putfield 102, 12, 0, 0), (5, 1, .aload_n 0, 0, 0, 0), (6, 1, .iload_n 1, 0, 0, 0), 
  (7, 12, .invokevirtual 383, 234, 2, 13), (10, 3, .ifCond .ne 5, 15, 0, 0), (13, 0, .iconst 0, 0, 0, 0), (14, 13, .ireturn, 0, 0, 0), 
  (15, 1, .aload_n 0, 0, 0, 0), (16, 12, .invokevirtual 449, 285, 1, 13), (19, 1, .aload_n 0, 0, 0, 0), (20, 5, .getfield 81, 12, 52, 0), 
  (23, 1, .iload_n 1, 0, 0, 0), (24, 7, .iaload, 0, 0, 0), (25, 13, .ireturn, 0, 0, 0)]
/-- TemperDownsModel.see(IIZ)I -/
noncomputable def zk290 : List (Nat × zJ) := [
  (0, 1, .aload_n 0, 0, 0, 0), (1, 0, .iconst 0, 0, 0, 0), (2, 6, .putfield 102, 12, 0, 0), (5, 1, .aload_n 0, 0, 0, 0), (6, 1, .iload_n 1, 0, 0, 0), 
  (7, 12, .invokevirtual 392, 239, 2, 13), (10, 3, .ifCond .ne 5, 15, 0, 0), (13, 0, .iconst 0, 0, 0, 0), (14, 13, .ireturn, 0, 0, 0), 
  (15, 1, .aload_n 0, 0, 0, 0), (16, 5, .getfield 286, 12, 53, 0), (19, 0, .bipush 8, 0, 0, 0), (21, 3, .if_icmp .eq 13, 34, 0, 0), 
  (24, 1, .iload_n 2, 0, 0, 0), (25, 0, .iconst 0, 0, 0, 0), (26, 0, .bipush 20, 0, 0, 0), (28, 12, .invokestatic 374, 221, 3, 0), 
  (31, 3, .ifCond .ne 9, 40, 0, 0), (34, 1, .aload_n 0, 0, 0, 0), (35, 0, .iconst 2, 0, 0, 0), (36, 12, .invokevirtual 401, 243, 2, 13), 
  (39, 13, .ireturn, 0, 0, 0), (40, 1, .aload_n 0, 0, 0, 0), (41, 5, .getfield 84, 12, 54, 0), (44, 0, .iconst 3, 0, 0, 0), 
  (45, 1, .aload_n 0, 0, 0, 0), (46, 5, .getfield 286, 12, 53, 0), (49, 0, .imul, 0, 0, 0), (50, 1, .iload_n 1, 0, 0, 0), (51, 8, .iastore, 0, 0, 0), 
  (52, 1, .aload_n 0, 0, 0, 0), (53, 5, .getfield 84, 12, 54, 0), (56, 0, .iconst 3, 0, 0, 0), (57, 1, .aload_n 0, 0, 0, 0), 
  (58, 5, .getfield 286, 12, 53, 0), (61, 0, .imul, 0, 0, 0), (62, 0, .iconst 1, 0, 0, 0), (63, 0, .iadd, 0, 0, 0), (64, 1, .iload_n 2, 0, 0, 0), 
  (65, 8, .iastore, 0, 0, 0), (66, 1, .aload_n 0, 0, 0, 0), (67, 5, .getfield 84, 12, 54, 0), (70, 0, .iconst 3, 0, 0, 0), 
  (71, 1, .aload_n 0, 0, 0, 0), (72, 5, .getfield 286, 12, 53, 0), (75, 0, .imul, 0, 0, 0), (76, 0, .iconst 2, 0, 0, 0), (77, 0, .iadd, 0, 0, 0), 
  (78, 1, .iload_n 3, 0, 0, 0), (79, 3, .ifCond .eq 7, 86, 0, 0), (82, 0, .iconst 1, 0, 0, 0), (83, 3, .goto 4, 87, 0, 0), (86, 0, .iconst 0, 0, 0, 0), 
  (87, 8, .iastore, 0, 0, 0), (88, 1, .aload_n 0, 0, 0, 0), (89, 0, .dup, 0, 0, 0), (90, 5, .getfield 286, 12, 53, 0), (93, 0, .iconst 1, 0, 0, 0), 
  (94, 0, .iadd, 0, 0, 0), (95, 6, .putfield 286, 12, 53, 0), (98, 1, .aload_n 0, 0, 0, 0), (99, 5, .getfield 286, 12, 53, 0), 
  (102, 13, .ireturn, 0, 0, 0)]
/-- TemperDownsModel.forget()V -/
noncomputable def zk291 : List (Nat × zJ) := [
  (0, 1, .aload_n 0, 0, 0, 0), (1, 0, .iconst 0, 0, 0, 0), (2, 6, .putfield 102, 12, 0, 0), (5, 1, .aload_n 0, 0, 0, 0), (6, 0, .iconst 0, 0, 0, 0), 
  (7, 6, .putfield 286, 12, 53, 0), (10, 13, .return_, 0, 0, 0)]
/-- TemperDownsModel.milder(I)I -/
noncomputable def zk292 : List (Nat × zJ) := [
  (0, 1, .aload_n 0, 0, 0, 0), (1, 0, .iconst 0, 0, 0, 0), (2, 6, .putfield 102, 12, 0, 0), (5, 1, .aload_n 0, 0, 0, 0), (6, 1, .iload_n 1, 0, 0, 0), 
  (7, 0, .iconst 2, 0, 0, 0), (8, 12, .invokevirtual 386, 235, 3, 13), (11, 3, .ifCond .ne 5, 16, 0, 0), (14, 0, .iconst 0, 0, 0, 0), 
  (15, 13, .ireturn, 0, 0, 0), (16, 1, .iload_n 1, 0, 0, 0), (17, 0, .iconst 2, 0, 0, 0), (18, 3, .if_icmp .ne 20, 38, 0, 0), 
  (21, 1, .aload_n 0, 0, 0, 0), (22, 12, .invokevirtual 413, 266, 1, 13), (25, 1, .aload_n 0, 0, 0, 0), (26, 12, .invokevirtual 452, 293, 1, 13), 
  (29, 3, .ifCond .eq 7, 36, 0, 0), (32, 0, .iconst 1, 0, 0, 0), (33, 3, .goto 4, 37, 0, 0), (36, 0, .iconst 0, 0, 0, 0), (37, 13, .ireturn, 0, 0, 0), 
  (38, 0, .iconst 0, 0, 0, 0), (39, 22, .istore_n 2, 0, 0, 0), (40, 0, .iconst (-1), 0, 0, 0), (41, 22, .istore_n 3, 0, 0, 0), 
  (42, 0, .iconst 0, 0, 0, 0), (43, 22, .istore 4, 0, 0, 0), (45, 1, .iload 4, 0, 0, 0), (47, 0, .bipush 10, 0, 0, 0), (49, 1, .aload_n 0, 0, 0, 0), 
  (50, 5, .getfield 273, 12, 3, 0), (53, 0, .imul, 0, 0, 0), (54, 3, .if_icmp .ge 32, 86, 0, 0), (57, 1, .aload_n 0, 0, 0, 0), 
  (58, 1, .iload 4, 0, 0, 0), (60, 12, .invokevirtual 455, 294, 2, 13), (63, 3, .ifCond .ne 6, 69, 0, 0), (66, 3, .goto 14, 80, 0, 0), 
  (69, 22, .iinc 2 1, 0, 0, 0), (72, 1, .iload_n 3, 0, 0, 0), (73, 0, .iconst (-1), 0, 0, 0), (74, 3, .if_icmp .ne 6, 80, 0, 0), 
  (77, 1, .iload 4, 0, 0, 0), (79, 22, .istore_n 3, 0, 0, 0), (80, 22, .iinc 4 1, 0, 0, 0), (83, 3, .goto (-38), 45, 0, 0), 
  (86, 1, .iload_n 1, 0, 0, 0), (87, 3, .ifCond .ne 7, 94, 0, 0), (90, 1, .iload_n 2, 0, 0, 0), (91, 3, .goto 4, 95, 0, 0), 
  (94, 1, .iload_n 3, 0, 0, 0), (95, 13, .ireturn, 0, 0, 0)]
/-- TemperDownsModel.isSeen()Z -/
noncomputable def zk293 : List (Nat × zJ) := [
  (0, 0, .iconst 0, 0, 0, 0), (1, 22, .istore_n 1, 0, 0, 0), (2, 1, .iload_n 1, 0, 0, 0), (3, 0, .bipush 20, 0, 0, 0), 
  (5, 3, .if_icmp .gt 119, 124, 0, 0), (8, 0, .iconst 0, 0, 0, 0), (9, 22, .istore_n 2, 0, 0, 0), (10, 1, .iload_n 2, 0, 0, 0), 
  (11, 1, .aload_n 0, 0, 0, 0), (12, 5, .getfield 286, 12, 53, 0), (15, 3, .if_icmp .ge 60, 75, 0, 0), (18, 1, .aload_n 0, 0, 0, 0), 
  (19, 5, .getfield 84, 12, 54, 0), (22, 0, .iconst 3, 0, 0, 0), (23, 1, .iload_n 2, 0, 0, 0), (24, 0, .imul, 0, 0, 0), (25, 0, .iconst 1, 0, 0, 0), 
  (26, 0, .iadd, 0, 0, 0), (27, 7, .iaload, 0, 0, 0), (28, 1, .iload_n 1, 0, 0, 0), (29, 3, .if_icmp .ne 40, 69, 0, 0), (32, 1, .aload_n 0, 0, 0, 0), 
  (33, 0, .bipush 79, 0, 0, 0), (35, 1, .aload_n 0, 0, 0, 0), (36, 5, .getfield 84, 12, 54, 0), (39, 0, .iconst 3, 0, 0, 0), 
  (40, 1, .iload_n 2, 0, 0, 0), (41, 0, .imul, 0, 0, 0), (42, 7, .iaload, 0, 0, 0), (43, 12, .invokevirtual 303, 223, 3, 13), 
  (46, 3, .ifCond .eq 7, 53, 0, 0), (49, 0, .iconst 1, 0, 0, 0), (50, 3, .goto 4, 54, 0, 0), (53, 0, .iconst 0, 0, 0, 0), (54, 1, .aload_n 0, 0, 0, 0), 
  (55, 5, .getfield 84, 12, 54, 0), (58, 0, .iconst 3, 0, 0, 0), (59, 1, .iload_n 2, 0, 0, 0), (60, 0, .imul, 0, 0, 0), (61, 0, .iconst 2, 0, 0, 0), 
  (62, 0, .iadd, 0, 0, 0), (63, 7, .iaload, 0, 0, 0), (64, 3, .if_icmp .eq 5, 69, 0, 0), (67, 0, .iconst 0, 0, 0, 0), (68, 13, .ireturn, 0, 0, 0), 
  (69, 22, .iinc 2 1, 0, 0, 0), (72, 3, .goto (-62), 10, 0, 0), (75, 1, .iload_n 1, 0, 0, 0), (76, 0, .bipush 8, 0, 0, 0), 
  (78, 3, .if_icmp .ne 34, 112, 0, 0), (81, 0, .iconst 0, 0, 0, 0), (82, 22, .istore_n 2, 0, 0, 0), (83, 1, .iload_n 2, 0, 0, 0), 
  (84, 1, .aload_n 0, 0, 0, 0), (85, 5, .getfield 276, 12, 4, 0), (88, 3, .if_icmp .ge 24, 112, 0, 0), (91, 1, .aload_n 0, 0, 0, 0), 
  (92, 5, .getfield 87, 12, 55, 0), (95, 1, .iload_n 2, 0, 0, 0), (96, 1, .aload_n 0, 0, 0, 0), (97, 5, .getfield 60, 12, 40, 0), 
  (100, 0, .bipush 118, 0, 0, 0), (102, 1, .iload_n 2, 0, 0, 0), (103, 0, .iadd, 0, 0, 0), (104, 7, .iaload, 0, 0, 0), (105, 8, .iastore, 0, 0, 0), 
  (106, 22, .iinc 2 1, 0, 0, 0), (109, 3, .goto (-26), 83, 0, 0), (112, 1, .aload_n 0, 0, 0, 0), (113, 0, .bipush 79, 0, 0, 0), 
  (115, 12, .invokevirtual 371, 245, 2, 13), (118, 22, .iinc 1 1, 0, 0, 0), (121, 3, .goto (-119), 2, 0, 0), (124, 0, .iconst 1, 0, 0, 0), 
  (125, 13, .ireturn, 0, 0, 0)]
/-- TemperDownsModel.isGuess(I)Z -/
noncomputable def zk294 : List (Nat × zJ) := [
  (0, 1, .iload_n 1, 0, 0, 0), (1, 0, .bipush 10, 0, 0, 0), (3, 0, .idiv, 0, 0, 0), (4, 22, .istore_n 2, 0, 0, 0), (5, 1, .aload_n 0, 0, 0, 0), 
  (6, 5, .getfield 60, 12, 40, 0), (9, 0, .bipush 22, 0, 0, 0), (11, 1, .iload_n 2, 0, 0, 0), (12, 0, .iadd, 0, 0, 0), (13, 7, .iaload, 0, 0, 0), 
  (14, 1, .iload_n 1, 0, 0, 0), (15, 0, .bipush 10, 0, 0, 0), (17, 0, .irem, 0, 0, 0), (18, 3, .if_icmp .ne 5, 23, 0, 0), (21, 0, .iconst 0, 0, 0, 0), 
  (22, 13, .ireturn, 0, 0, 0), (23, 1, .aload_n 0, 0, 0, 0), (24, 12, .invokevirtual 413, 266, 1, 13), (27, 1, .aload_n 0, 0, 0, 0), 
  (28, 5, .getfield 60, 12, 40, 0), (31, 0, .bipush 101, 0, 0, 0), (33, 1, .iload_n 2, 0, 0, 0), (34, 0, .iadd, 0, 0, 0), (35, 1, .iload_n 1, 0, 0, 0), 
  (36, 0, .bipush 10, 0, 0, 0), (38, 0, .irem, 0, 0, 0), (39, 8, .iastore, 0, 0, 0), (40, 1, .aload_n 0, 0, 0, 0), 
  (41, 12, .invokevirtual 452, 293, 1, 13), (44, 13, .ireturn, 0, 0, 0)]
/-- TemperDownsModel.look(I)I -/
noncomputable def zk295 : List (Nat × zJ) := [
  (0, 1, .aload_n 0, 0, 0, 0), (1, 0, .iconst 0, 0, 0, 0), (2, 6, .putfield 102, 12, 0, 0), (5, 1, .aload_n 0, 0, 0, 0), (6, 1, .iload_n 1, 0, 0, 0), 
  (7, 0, .iconst 1, 0, 0, 0), (8, 12, .invokevirtual 386, 235, 3, 13), (11, 3, .ifCond .ne 5, 16, 0, 0), (14, 0, .iconst 0, 0, 0, 0), 
  (15, 13, .ireturn, 0, 0, 0), (16, 0, .iconst 0, 0, 0, 0), (17, 22, .istore_n 2, 0, 0, 0), (18, 0, .iconst 0, 0, 0, 0), 
  (19, 22, .istore_n 3, 0, 0, 0), (20, 1, .iload_n 3, 0, 0, 0), (21, 0, .bipush 10, 0, 0, 0), (23, 1, .aload_n 0, 0, 0, 0), 
  (24, 5, .getfield 273, 12, 3, 0), (27, 0, .imul, 0, 0, 0), (28, 3, .if_icmp .ge 60, 88, 0, 0), (31, 1, .aload_n 0, 0, 0, 0), 
  (32, 1, .iload_n 3, 0, 0, 0), (33, 12, .invokevirtual 455, 294, 2, 13), (36, 3, .ifCond .ne 6, 42, 0, 0), (39, 3, .goto 43, 82, 0, 0), 
  (42, 0, .iconst 0, 0, 0, 0), (43, 22, .istore 4, 0, 0, 0), (45, 1, .iload 4, 0, 0, 0), (47, 1, .aload_n 0, 0, 0, 0), 
  (48, 5, .getfield 276, 12, 4, 0), (51, 3, .if_icmp .ge 28, 79, 0, 0), (54, 1, .aload_n 0, 0, 0, 0), (55, 5, .getfield 90, 12, 56, 0), 
  (58, 0, .bipush 10, 0, 0, 0), (60, 1, .iload_n 2, 0, 0, 0), (61, 0, .imul, 0, 0, 0), (62, 1, .iload 4, 0, 0, 0), (64, 0, .iadd, 0, 0, 0), 
  (65, 1, .aload_n 0, 0, 0, 0), (66, 5, .getfield 87, 12, 55, 0), (69, 1, .iload 4, 0, 0, 0), (71, 7, .iaload, 0, 0, 0), (72, 8, .iastore, 0, 0, 0), 
  (73, 22, .iinc 4 1, 0, 0, 0), (76, 3, .goto (-31), 45, 0, 0), (79, 22, .iinc 2 1, 0, 0, 0), (82, 22, .iinc 3 1, 0, 0, 0), 
  (85, 3, .goto (-65), 20, 0, 0), (88, 0, .iconst (-1), 0, 0, 0), (89, 22, .istore_n 3, 0, 0, 0), (90, 0, .iconst 0, 0, 0, 0), 
  (91, 22, .istore 4, 0, 0, 0), (93, 0, .iconst 0, 0, 0, 0), (94, 22, .istore 5, 0, 0, 0), (96, 1, .iload 5, 0, 0, 0), (98, 1, .aload_n 0, 0, 0, 0), 
  (99, 5, .getfield 276, 12, 4, 0), (102, 3, .if_icmp .ge 119, 221, 0, 0), (105, 0, .iconst 0, 0, 0, 0), (106, 22, .istore 6, 0, 0, 0), 
  (108, 0, .iconst 0, 0, 0, 0), (109, 22, .istore 7, 0, 0, 0), (111, 1, .iload 7, 0, 0, 0), (113, 1, .iload_n 2, 0, 0, 0), 
  (114, 3, .if_icmp .ge 84, 198, 0, 0), (117, 0, .iconst 1, 0, 0, 0), (118, 22, .istore 8, 0, 0, 0), (120, 0, .iconst 0, 0, 0, 0), 
  (121, 22, .istore 9, 0, 0, 0), (123, 1, .iload 9, 0, 0, 0), (125, 1, .iload 7, 0, 0, 0), (127, 3, .if_icmp .ge 50, 177, 0, 0), 
  (130, 1, .iload 8, 0, 0, 0), (132, 3, .ifCond .eq 45, 177, 0, 0), (135, 1, .aload_n 0, 0, 0, 0), (136, 5, .getfield 90, 12, 56, 0), 
  (139, 0, .bipush 10, 0, 0, 0), (141, 1, .iload 7, 0, 0, 0), (143, 0, .imul, 0, 0, 0), (144, 1, .iload 5, 0, 0, 0), (146, 0, .iadd, 0, 0, 0), 
  (147, 7, .iaload, 0, 0, 0), (148, 1, .aload_n 0, 0, 0, 0), (149, 5, .getfield 90, 12, 56, 0), (152, 0, .bipush 10, 0, 0, 0), 
  (154, 1, .iload 9, 0, 0, 0), (156, 0, .imul, 0, 0, 0), (157, 1, .iload 5, 0, 0, 0), (159, 0, .iadd, 0, 0, 0), (160, 7, .iaload, 0, 0, 0), 
  (161, 3, .if_icmp .eq 7, 168, 0, 0), (164, 0, .iconst 1, 0, 0, 0), (165, 3, .goto 4, 169, 0, 0), (168, 0, .iconst 0, 0, 0, 0), 
  (169, 22, .istore 8, 0, 0, 0), (171, 22, .iinc 9 1, 0, 0, 0), (174, 3, .goto (-51), 123, 0, 0), (177, 1, .iload 6, 0, 0, 0), 
  (179, 1, .iload 8, 0, 0, 0), (181, 3, .ifCond .eq 7, 188, 0, 0), (184, 0, .iconst 1, 0, 0, 0), (185, 3, .goto 4, 189, 0, 0), 
  (188, 0, .iconst 0, 0, 0, 0), (189, 0, .iadd, 0, 0, 0), (190, 22, .istore 6, 0, 0, 0), (192, 22, .iinc 7 1, 0, 0, 0), 
  (195, 3, .goto (-84), 111, 0, 0), (198, 1, .iload 6, 0, 0, 0), (200, 1, .iload 4, 0, 0, 0), (202, 3, .if_icmp .gt 6, 208, 0, 0), 
  (205, 3, .goto 10, 215, 0, 0), (208, 1, .iload 5, 0, 0, 0), (210, 22, .istore_n 3, 0, 0, 0), (211, 1, .iload 6, 0, 0, 0), 
  (213, 22, .istore 4, 0, 0, 0), (215, 22, .iinc 5 1, 0, 0, 0), (218, 3, .goto (-122), 96, 0, 0), (221, 1, .iload_n 1, 0, 0, 0), 
  (222, 3, .ifCond .ne 7, 229, 0, 0), (225, 1, .iload_n 3, 0, 0, 0), (226, 3, .goto 5, 231, 0, 0), (229, 1, .iload 4, 0, 0, 0), 
  (231, 13, .ireturn, 0, 0, 0)]
/-- TemperDownsModel.boys(III)I -/
noncomputable def zk296 : List (Nat × zJ) := [
  (0, 1, .aload_n 0, 0, 0, 0), (1, 0, .iconst 0, 0, 0, 0), (2, 6, .putfield 102, 12, 0, 0), (5, 1, .aload_n 0, 0, 0, 0), (6, 1, .iload_n 1, 0, 0, 0), 
  (7, 12, .invokevirtual 392, 239, 2, 13), (10, 3, .ifCond .eq 35, 45, 0, 0), (13, 1, .aload_n 0, 0, 0, 0), (14, 1, .iload_n 2, 0, 0, 0), 
  (15, 0, .iconst 1, 0, 0, 0), (16, 0, .iconst 5, 0, 0, 0), (17, 12, .invokestatic 374, 221, 3, 0), (20, 3, .ifCond .eq 17, 37, 0, 0), 
  (23, 1, .iload_n 3, 0, 0, 0), (24, 0, .iconst 0, 0, 0, 0), (25, 0, .bipush 10, 0, 0, 0), (27, 12, .invokestatic 374, 221, 3, 0), 
  (30, 3, .ifCond .eq 7, 37, 0, 0), (33, 0, .iconst 1, 0, 0, 0), (34, 3, .goto 4, 38, 0, 0), (37, 0, .iconst 0, 0, 0, 0), (38, 0, .iconst 2, 0, 0, 0), 
  (39, 12, .invokevirtual 266, 188, 3, 13), (42, 3, .ifCond .ne 5, 47, 0, 0), (45, 0, .iconst 0, 0, 0, 0), (46, 13, .ireturn, 0, 0, 0), 
  (47, 0, .iconst 0, 0, 0, 0), (48, 22, .istore 4, 0, 0, 0), (50, 0, .iconst 0, 0, 0, 0), (51, 22, .istore 5, 0, 0, 0), (53, 1, .iload 5, 0, 0, 0), 
  (55, 0, .iconst 1, 0, 0, 0), (56, 1, .iload_n 2, 0, 0, 0), (57, 0, .ishl, 0, 0, 0), (58, 3, .if_icmp .ge 103, 161, 0, 0), 
  (61, 0, .iconst 1, 0, 0, 0), (62, 22, .istore 6, 0, 0, 0), (64, 1, .aload_n 0, 0, 0, 0), (65, 12, .invokevirtual 413, 266, 1, 13), 
  (68, 0, .iconst 0, 0, 0, 0), (69, 22, .istore 7, 0, 0, 0), (71, 1, .iload 7, 0, 0, 0), (73, 1, .iload_n 2, 0, 0, 0), 
  (74, 3, .if_icmp .ge 60, 134, 0, 0), (77, 1, .iload 5, 0, 0, 0), (79, 1, .iload 7, 0, 0, 0), (81, 0, .ishr, 0, 0, 0), (82, 0, .iconst 1, 0, 0, 0), 
  (83, 0, .iand, 0, 0, 0), (84, 0, .iconst 1, 0, 0, 0), (85, 3, .if_icmp .ne 7, 92, 0, 0), (88, 0, .iconst 1, 0, 0, 0), (89, 3, .goto 4, 93, 0, 0), 
  (92, 0, .iconst 0, 0, 0, 0), (93, 22, .istore 8, 0, 0, 0), (95, 1, .iload 6, 0, 0, 0), (97, 1, .iload 8, 0, 0, 0), (99, 3, .ifCond .eq 7, 106, 0, 0), 
  (102, 1, .iload_n 3, 0, 0, 0), (103, 3, .goto 7, 110, 0, 0), (106, 0, .bipush 10, 0, 0, 0), (108, 1, .iload_n 3, 0, 0, 0), (109, 0, .isub, 0, 0, 0), 
  (110, 0, .imul, 0, 0, 0), (111, 22, .istore 6, 0, 0, 0), (113, 1, .iload 8, 0, 0, 0), (115, 3, .ifCond .eq 7, 122, 0, 0), 
  (118, 1, .aload_n 0, 0, 0, 0), (119, 12, .invokevirtual 458, 297, 1, 13), (122, 1, .aload_n 0, 0, 0, 0), (123, 0, .bipush 79, 0, 0, 0), 
  (125, 12, .invokevirtual 371, 245, 2, 13), (128, 22, .iinc 7 1, 0, 0, 0), (131, 3, .goto (-60), 71, 0, 0), (134, 1, .iload 4, 0, 0, 0), 
  (136, 1, .aload_n 0, 0, 0, 0), (137, 0, .bipush 79, 0, 0, 0), (139, 1, .iload_n 1, 0, 0, 0), (140, 12, .invokevirtual 303, 223, 3, 13), 
  (143, 3, .ifCond .eq 8, 151, 0, 0), (146, 1, .iload 6, 0, 0, 0), (148, 3, .goto 4, 152, 0, 0), (151, 0, .iconst 0, 0, 0, 0), 
  (152, 0, .iadd, 0, 0, 0), (153, 22, .istore 4, 0, 0, 0), (155, 22, .iinc 5 1, 0, 0, 0), (158, 3, .goto (-105), 53, 0, 0), 
  (161, 1, .iload 4, 0, 0, 0), (163, 13, .ireturn, 0, 0, 0)]
/-- TemperDownsModel.treads()V -/
noncomputable def zk297 : List (Nat × zJ) := [
  (0, 0, .iconst (-1), 0, 0, 0), (1, 22, .istore_n 1, 0, 0, 0), (2, 0, .iconst 0, 0, 0, 0), (3, 22, .istore_n 2, 0, 0, 0), (4, 1, .iload_n 2, 0, 0, 0), 
  (5, 1, .aload_n 0, 0, 0, 0), (6, 5, .getfield 276, 12, 4, 0), (9, 3, .if_icmp .ge 47, 56, 0, 0), (12, 1, .aload_n 0, 0, 0, 0), 
  (13, 0, .bipush 79, 0, 0, 0), (15, 1, .iload_n 2, 0, 0, 0), (16, 12, .invokevirtual 407, 258, 3, 13), (19, 3, .ifCond .eq 31, 50, 0, 0), 
  (22, 1, .iload_n 1, 0, 0, 0), (23, 0, .iconst (-1), 0, 0, 0), (24, 3, .if_icmp .eq 24, 48, 0, 0), (27, 1, .aload_n 0, 0, 0, 0), 
  (28, 5, .getfield 60, 12, 40, 0), (31, 0, .bipush 118, 0, 0, 0), (33, 1, .iload_n 2, 0, 0, 0), (34, 0, .iadd, 0, 0, 0), (35, 7, .iaload, 0, 0, 0), 
  (36, 1, .aload_n 0, 0, 0, 0), (37, 5, .getfield 60, 12, 40, 0), (40, 0, .bipush 118, 0, 0, 0), (42, 1, .iload_n 1, 0, 0, 0), (43, 0, .iadd, 0, 0, 0), 
  (44, 7, .iaload, 0, 0, 0), (45, 3, .if_icmp .le 5, 50, 0, 0), (48, 1, .iload_n 2, 0, 0, 0), (49, 22, .istore_n 1, 0, 0, 0), 
  (50, 22, .iinc 2 1, 0, 0, 0), (53, 3, .goto (-49), 4, 0, 0), (56, 1, .iload_n 1, 0, 0, 0), (57, 0, .iconst (-1), 0, 0, 0), 
  (58, 3, .if_icmp .eq 13, 71, 0, 0), (61, 1, .aload_n 0, 0, 0, 0), (62, 0, .bipush 79, 0, 0, 0), (64, 0, .iconst 1, 0, 0, 0), 
  (65, 1, .iload_n 1, 0, 0, 0), (66, 0, .ishl, 0, 0, 0), (67, 12, .invokevirtual 362, 256, 3, 13), (70, 0, .pop, 0, 0, 0), (71, 13, .return_, 0, 0, 0)]
/-- TemperDownsModel.game(III)I -/
noncomputable def zk298 : List (Nat × zJ) := [
  (0, 1, .aload_n 0, 0, 0, 0), (1, 0, .iconst 0, 0, 0, 0), (2, 6, .putfield 102, 12, 0, 0), (5, 1, .aload_n 0, 0, 0, 0), (6, 1, .iload_n 1, 0, 0, 0), 
  (7, 12, .invokevirtual 383, 234, 2, 13), (10, 3, .ifCond .eq 38, 48, 0, 0), (13, 1, .aload_n 0, 0, 0, 0), (14, 1, .iload_n 2, 0, 0, 0), 
  (15, 12, .invokevirtual 383, 234, 2, 13), (18, 3, .ifCond .eq 30, 48, 0, 0), (21, 1, .aload_n 0, 0, 0, 0), (22, 1, .iload_n 3, 0, 0, 0), 
  (23, 0, .iconst 1, 0, 0, 0), (24, 12, .invokevirtual 386, 235, 3, 13), (27, 3, .ifCond .eq 21, 48, 0, 0), (30, 1, .aload_n 0, 0, 0, 0), 
  (31, 1, .iload_n 1, 0, 0, 0), (32, 1, .iload_n 2, 0, 0, 0), (33, 3, .if_icmp .eq 7, 40, 0, 0), (36, 0, .iconst 1, 0, 0, 0), 
  (37, 3, .goto 4, 41, 0, 0), (40, 0, .iconst 0, 0, 0, 0), (41, 0, .iconst 2, 0, 0, 0), (42, 12, .invokevirtual 266, 188, 3, 13), 
  (45, 3, .ifCond .ne 5, 50, 0, 0), (48, 0, .iconst 0, 0, 0, 0), (49, 13, .ireturn, 0, 0, 0), (50, 1, .aload_n 0, 0, 0, 0), 
  (51, 5, .getfield 60, 12, 40, 0), (54, 0, .iconst 1, 0, 0, 0), (55, 1, .iload_n 1, 0, 0, 0), (56, 0, .iadd, 0, 0, 0), (57, 7, .iaload, 0, 0, 0), 
  (58, 3, .ifCond .eq 14, 72, 0, 0), (61, 1, .aload_n 0, 0, 0, 0), (62, 5, .getfield 60, 12, 40, 0), (65, 0, .iconst 1, 0, 0, 0), 
  (66, 1, .iload_n 2, 0, 0, 0), (67, 0, .iadd, 0, 0, 0), (68, 7, .iaload, 0, 0, 0), (69, 3, .ifCond .ne 5, 74, 0, 0), (72, 0, .iconst (-1), 0, 0, 0), 
  (73, 13, .ireturn, 0, 0, 0), (74, 0, .iconst 0, 0, 0, 0), (75, 22, .istore 4, 0, 0, 0), (77, 0, .iconst (-1), 0, 0, 0), (78, 22, .istore 5, 0, 0, 0), 
  (80, 0, .iconst 0, 0, 0, 0), (81, 22, .istore 6, 0, 0, 0), (83, 1, .iload 6, 0, 0, 0), (85, 0, .iconst 4, 0, 0, 0), 
  (86, 3, .if_icmp .ge 93, 179, 0, 0), (89, 1, .iload 6, 0, 0, 0), (91, 0, .iconst 2, 0, 0, 0), (92, 0, .idiv, 0, 0, 0), (93, 22, .istore 7, 0, 0, 0), 
  (95, 1, .iload 6, 0, 0, 0), (97, 0, .iconst 2, 0, 0, 0), (98, 0, .irem, 0, 0, 0), (99, 22, .istore 8, 0, 0, 0), (101, 1, .aload_n 0, 0, 0, 0), 
  (102, 1, .iload_n 1, 0, 0, 0), (103, 1, .iload_n 2, 0, 0, 0), (104, 0, .iconst 1, 0, 0, 0), (105, 1, .iload 7, 0, 0, 0), (107, 0, .isub, 0, 0, 0), 
  (108, 1, .iload 8, 0, 0, 0), (110, 12, .invokevirtual 461, 299, 5, 13), (113, 1, .aload_n 0, 0, 0, 0), (114, 1, .iload_n 1, 0, 0, 0), 
  (115, 1, .iload_n 2, 0, 0, 0), (116, 1, .iload 7, 0, 0, 0), (118, 1, .iload 8, 0, 0, 0), (120, 12, .invokevirtual 461, 299, 5, 13), 
  (123, 3, .if_icmp .gt 50, 173, 0, 0), (126, 1, .aload_n 0, 0, 0, 0), (127, 1, .iload_n 2, 0, 0, 0), (128, 1, .iload_n 1, 0, 0, 0), 
  (129, 0, .iconst 1, 0, 0, 0), (130, 1, .iload 8, 0, 0, 0), (132, 0, .isub, 0, 0, 0), (133, 1, .iload 7, 0, 0, 0), 
  (135, 12, .invokevirtual 461, 299, 5, 13), (138, 1, .aload_n 0, 0, 0, 0), (139, 1, .iload_n 2, 0, 0, 0), (140, 1, .iload_n 1, 0, 0, 0), 
  (141, 1, .iload 8, 0, 0, 0), (143, 1, .iload 7, 0, 0, 0), (145, 12, .invokevirtual 461, 299, 5, 13), (148, 3, .if_icmp .le 6, 154, 0, 0), 
  (151, 3, .goto 22, 173, 0, 0), (154, 22, .iinc 4 1, 0, 0, 0), (157, 1, .iload 5, 0, 0, 0), (159, 0, .iconst (-1), 0, 0, 0), 
  (160, 3, .if_icmp .ne 13, 173, 0, 0), (163, 0, .bipush 10, 0, 0, 0), (165, 1, .iload 7, 0, 0, 0), (167, 0, .imul, 0, 0, 0), 
  (168, 1, .iload 8, 0, 0, 0), (170, 0, .iadd, 0, 0, 0), (171, 22, .istore 5, 0, 0, 0), (173, 22, .iinc 6 1, 0, 0, 0), (176, 3, .goto (-93), 83, 0, 0), 
  (179, 1, .iload_n 3, 0, 0, 0), (180, 3, .ifCond .ne 8, 188, 0, 0), (183, 1, .iload 4, 0, 0, 0), (185, 3, .goto 5, 190, 0, 0), 
  (188, 1, .iload 5, 0, 0, 0), (190, 13, .ireturn, 0, 0, 0)]
/-- TemperDownsModel.gains(IIII)I -/
noncomputable def zk299 : List (Nat × zJ) := [
  (0, 1, .aload_n 0, 0, 0, 0), (1, 12, .invokevirtual 413, 266, 1, 13), (4, 1, .iload_n 3, 0, 0, 0), (5, 0, .iconst 1, 0, 0, 0), 
  (6, 3, .if_icmp .ne 16, 22, 0, 0), (9, 1, .iload_n 1, 0, 0, 0), (10, 1, .iload_n 2, 0, 0, 0), (11, 3, .if_icmp .ge 11, 22, 0, 0), 
  (14, 1, .aload_n 0, 0, 0, 0), (15, 0, .bipush 79, 0, 0, 0), (17, 1, .iload_n 1, 0, 0, 0), (18, 12, .invokevirtual 347, 254, 3, 13), 
  (21, 0, .pop, 0, 0, 0), (22, 1, .iload 4, 0, 0, 0), (24, 0, .iconst 1, 0, 0, 0), (25, 3, .if_icmp .ne 11, 36, 0, 0), (28, 1, .aload_n 0, 0, 0, 0), 
  (29, 0, .bipush 79, 0, 0, 0), (31, 1, .iload_n 2, 0, 0, 0), (32, 12, .invokevirtual 347, 254, 3, 13), (35, 0, .pop, 0, 0, 0), 
  (36, 1, .iload_n 3, 0, 0, 0), (37, 0, .iconst 1, 0, 0, 0), (38, 3, .if_icmp .ne 16, 54, 0, 0), (41, 1, .iload_n 1, 0, 0, 0), 
  (42, 1, .iload_n 2, 0, 0, 0), (43, 3, .if_icmp .le 11, 54, 0, 0), (46, 1, .aload_n 0, 0, 0, 0), (47, 0, .bipush 79, 0, 0, 0), 
  (49, 1, .iload_n 1, 0, 0, 0), (50, 12, .invokevirtual 347, 254, 3, 13), (53, 0, .pop, 0, 0, 0), (54, 1, .aload_n 0, 0, 0, 0), 
  (55, 0, .bipush 10, 0, 0, 0), (57, 12, .invokevirtual 416, 267, 2, 13), (60, 0, .iconst 4, 0, 0, 0), (61, 1, .aload_n 0, 0, 0, 0), 
  (62, 5, .getfield 60, 12, 40, 0), (65, 0, .bipush 8, 0, 0, 0), (67, 1, .iload_n 1, 0, 0, 0), (68, 0, .iadd, 0, 0, 0), (69, 7, .iaload, 0, 0, 0), 
  (70, 1, .aload_n 0, 0, 0, 0), (71, 5, .getfield 60, 12, 40, 0), (74, 0, .bipush 87, 0, 0, 0), (76, 1, .iload_n 1, 0, 0, 0), (77, 0, .iadd, 0, 0, 0), 
  (78, 7, .iaload, 0, 0, 0), (79, 0, .isub, 0, 0, 0), (80, 0, .imul, 0, 0, 0), (81, 1, .aload_n 0, 0, 0, 0), (82, 5, .getfield 60, 12, 40, 0), 
  (85, 0, .bipush 15, 0, 0, 0), (87, 1, .iload_n 1, 0, 0, 0), (88, 0, .iadd, 0, 0, 0), (89, 7, .iaload, 0, 0, 0), (90, 0, .iadd, 0, 0, 0), 
  (91, 1, .aload_n 0, 0, 0, 0), (92, 5, .getfield 60, 12, 40, 0), (95, 0, .bipush 94, 0, 0, 0), (97, 1, .iload_n 1, 0, 0, 0), (98, 0, .iadd, 0, 0, 0), 
  (99, 7, .iaload, 0, 0, 0), (100, 0, .isub, 0, 0, 0), (101, 0, .iconst 2, 0, 0, 0), (102, 1, .iload_n 3, 0, 0, 0), (103, 0, .imul, 0, 0, 0), 
  (104, 0, .isub, 0, 0, 0), (105, 13, .ireturn, 0, 0, 0)]
/-- TemperDownsModel.years(III)I -/
noncomputable def zk300 : List (Nat × zJ) := [
  (0, 1, .aload_n 0, 0, 0, 0), (1, 0, .iconst 0, 0, 0, 0), (2, 6, .putfield 102, 12, 0, 0), (5, 1, .aload_n 0, 0, 0, 0), (6, 1, .iload_n 3, 0, 0, 0), 
  (7, 0, .iconst 2, 0, 0, 0), (8, 12, .invokevirtual 386, 235, 3, 13), (11, 3, .ifCond .eq 13, 24, 0, 0), (14, 1, .aload_n 0, 0, 0, 0), 
  (15, 1, .iload_n 2, 0, 0, 0), (16, 0, .iconst 0, 0, 0, 0), (17, 0, .iconst 2, 0, 0, 0), (18, 12, .invokevirtual 419, 264, 4, 13), 
  (21, 3, .ifCond .ne 5, 26, 0, 0), (24, 0, .iconst 0, 0, 0, 0), (25, 13, .ireturn, 0, 0, 0), (26, 1, .aload_n 0, 0, 0, 0), 
  (27, 12, .invokevirtual 413, 266, 1, 13), (30, 1, .aload_n 0, 0, 0, 0), (31, 1, .iload_n 1, 0, 0, 0), (32, 6, .putfield 465, 12, 57, 0), 
  (35, 0, .iconst 0, 0, 0, 0), (36, 22, .istore 4, 0, 0, 0), (38, 0, .iconst 0, 0, 0, 0), (39, 22, .istore 5, 0, 0, 0), (41, 1, .iload 5, 0, 0, 0), 
  (43, 1, .iload_n 2, 0, 0, 0), (44, 3, .if_icmp .ge 32, 76, 0, 0), (47, 1, .aload_n 0, 0, 0, 0), (48, 12, .invokevirtual 365, 246, 1, 13), 
  (51, 1, .aload_n 0, 0, 0, 0), (52, 12, .invokevirtual 472, 301, 1, 13), (55, 1, .aload_n 0, 0, 0, 0), (56, 0, .bipush 79, 0, 0, 0), 
  (58, 12, .invokevirtual 368, 247, 2, 13), (61, 1, .iload 4, 0, 0, 0), (63, 1, .aload_n 0, 0, 0, 0), (64, 5, .getfield 329, 12, 46, 0), 
  (67, 0, .iadd, 0, 0, 0), (68, 22, .istore 4, 0, 0, 0), (70, 22, .iinc 5 1, 0, 0, 0), (73, 3, .goto (-32), 41, 0, 0), (76, 1, .iload_n 3, 0, 0, 0), 
  (77, 3, .ifCond .ne 8, 85, 0, 0), (80, 1, .iload 4, 0, 0, 0), (82, 3, .goto 46, 128, 0, 0), (85, 1, .iload_n 3, 0, 0, 0), 
  (86, 0, .iconst 1, 0, 0, 0), (87, 3, .if_icmp .ne 30, 117, 0, 0), (90, 1, .aload_n 0, 0, 0, 0), (91, 0, .bipush 79, 0, 0, 0), 
  (93, 0, .bipush 8, 0, 0, 0), (95, 1, .aload_n 0, 0, 0, 0), (96, 5, .getfield 273, 12, 3, 0), (99, 12, .invokevirtual 377, 225, 4, 13), 
  (102, 1, .aload_n 0, 0, 0, 0), (103, 0, .iconst 0, 0, 0, 0), (104, 0, .bipush 8, 0, 0, 0), (106, 1, .aload_n 0, 0, 0, 0), 
  (107, 5, .getfield 273, 12, 3, 0), (110, 12, .invokevirtual 377, 225, 4, 13), (113, 0, .isub, 0, 0, 0), (114, 3, .goto 14, 128, 0, 0), 
  (117, 1, .aload_n 0, 0, 0, 0), (118, 0, .bipush 79, 0, 0, 0), (120, 0, .iconst 1, 0, 0, 0), (121, 1, .aload_n 0, 0, 0, 0), 
  (122, 5, .getfield 273, 12, 3, 0), (125, 12, .invokevirtual 377, 225, 4, 13), (128, 13, .ireturn, 0, 0, 0)]
/-- TemperDownsModel.happens()V -/
noncomputable def zk301 : List (Nat × zJ) := [
  (0, 1, .aload_n 0, 0, 0, 0), (1, 0, .iconst 5, 0, 0, 0), (2, 12, .invokevirtual 469, 302, 2, 13), (5, 22, .istore_n 1, 0, 0, 0), 
  (6, 1, .iload_n 1, 0, 0, 0), (7, 3, .ifCond .ne 39, 46, 0, 0), (10, 1, .aload_n 0, 0, 0, 0), (11, 5, .getfield 276, 12, 4, 0), 
  (14, 3, .ifCond .le 32, 46, 0, 0), (17, 1, .aload_n 0, 0, 0, 0), (18, 1, .aload_n 0, 0, 0, 0), (19, 5, .getfield 276, 12, 4, 0), 
  (22, 12, .invokevirtual 469, 302, 2, 13), (25, 22, .istore_n 2, 0, 0, 0), (26, 1, .aload_n 0, 0, 0, 0), (27, 0, .bipush 79, 0, 0, 0), 
  (29, 1, .iload_n 2, 0, 0, 0), (30, 12, .invokevirtual 407, 258, 3, 13), (33, 3, .ifCond .eq 13, 46, 0, 0), (36, 1, .aload_n 0, 0, 0, 0), 
  (37, 0, .bipush 79, 0, 0, 0), (39, 0, .iconst 1, 0, 0, 0), (40, 1, .iload_n 2, 0, 0, 0), (41, 0, .ishl, 0, 0, 0), 
  (42, 12, .invokevirtual 362, 256, 3, 13), (45, 0, .pop, 0, 0, 0), (46, 1, .iload_n 1, 0, 0, 0), (47, 0, .iconst 1, 0, 0, 0), 
  (48, 3, .if_icmp .ne 34, 82, 0, 0), (51, 1, .aload_n 0, 0, 0, 0), (52, 5, .getfield 273, 12, 3, 0), (55, 3, .ifCond .le 27, 82, 0, 0), 
  (58, 1, .aload_n 0, 0, 0, 0), (59, 1, .aload_n 0, 0, 0, 0), (60, 5, .getfield 273, 12, 3, 0), (63, 12, .invokevirtual 469, 302, 2, 13), 
  (66, 22, .istore_n 2, 0, 0, 0), (67, 1, .aload_n 0, 0, 0, 0), (68, 5, .getfield 60, 12, 40, 0), (71, 0, .bipush 80, 0, 0, 0), 
  (73, 1, .iload_n 2, 0, 0, 0), (74, 0, .iadd, 0, 0, 0), (75, 1, .aload_n 0, 0, 0, 0), (76, 0, .bipush 60, 0, 0, 0), 
  (78, 12, .invokevirtual 469, 302, 2, 13), (81, 8, .iastore, 0, 0, 0), (82, 13, .return_, 0, 0, 0)]
/-- TemperDownsModel.draw(I)I -/
noncomputable def zk302 : List (Nat × zJ) := [
  (0, 1, .aload_n 0, 0, 0, 0), (1, 1, .aload_n 0, 0, 0, 0), (2, 5, .getfield 465, 12, 57, 0), (5, 16, .ldc_w 468, 1103515245, 0, 0), 
  (8, 0, .imul, 0, 0, 0), (9, 0, .sipush 12345, 0, 0, 0), (12, 0, .iadd, 0, 0, 0), (13, 6, .putfield 465, 12, 57, 0), (16, 1, .aload_n 0, 0, 0, 0), 
  (17, 5, .getfield 465, 12, 57, 0), (20, 0, .bipush 16, 0, 0, 0), (22, 0, .ishr, 0, 0, 0), (23, 0, .sipush 32767, 0, 0, 0), (26, 0, .iand, 0, 0, 0), 
  (27, 1, .iload_n 1, 0, 0, 0), (28, 0, .irem, 0, 0, 0), (29, 13, .ireturn, 0, 0, 0)]
/-- TemperDownsModel.image()V -/
noncomputable def zk303 : List (Nat × zJ) := [
  (0, 1, .aload_n 0, 0, 0, 0), (1, 0, .iconst 0, 0, 0, 0), (2, 6, .putfield 102, 12, 0, 0), (5, 1, .aload_n 0, 0, 0, 0), (6, 0, .iconst 1, 0, 0, 0), 
  (7, 6, .putfield 289, 12, 58, 2), (10, 1, .aload_n 0, 0, 0, 0), (11, 1, .aload_n 0, 0, 0, 0), (12, 5, .getfield 283, 12, 42, 0), 
  (15, 6, .putfield 475, 12, 59, 0), (18, 1, .aload_n 0, 0, 0, 0), (19, 1, .aload_n 0, 0, 0, 0), (20, 5, .getfield 286, 12, 53, 0), 
  (23, 6, .putfield 478, 12, 60, 0), (26, 0, .iconst 0, 0, 0, 0), (27, 22, .istore_n 1, 0, 0, 0), (28, 1, .iload_n 1, 0, 0, 0), 
  (29, 0, .bipush 79, 0, 0, 0), (31, 3, .if_icmp .ge 21, 52, 0, 0), (34, 1, .aload_n 0, 0, 0, 0), (35, 5, .getfield 93, 12, 61, 0), 
  (38, 1, .iload_n 1, 0, 0, 0), (39, 1, .aload_n 0, 0, 0, 0), (40, 5, .getfield 60, 12, 40, 0), (43, 1, .iload_n 1, 0, 0, 0), 
  (44, 7, .iaload, 0, 0, 0), (45, 8, .iastore, 0, 0, 0), (46, 22, .iinc 1 1, 0, 0, 0), (49, 3, .goto (-21), 28, 0, 0), (52, 1, .aload_n 0, 0, 0, 0), 
  (53, 1, .aload_n 0, 0, 0, 0), (54, 5, .getfield 63, 12, 41, 0), (57, 1, .aload_n 0, 0, 0, 0), (58, 5, .getfield 96, 12, 62, 0), 
  (61, 12, .invokevirtual 279, 217, 3, 13), (64, 1, .aload_n 0, 0, 0, 0), (65, 1, .aload_n 0, 0, 0, 0), (66, 5, .getfield 84, 12, 54, 0), 
  (69, 1, .aload_n 0, 0, 0, 0), (70, 5, .getfield 99, 12, 63, 0), (73, 12, .invokevirtual 279, 217, 3, 13), (76, 13, .return_, 0, 0, 0)]
/-- TemperDownsModel.restore()Z -/
noncomputable def zk304 : List (Nat × zJ) := [
  (0, 1, .aload_n 0, 0, 0, 0), (1, 0, .iconst 0, 0, 0, 0), (2, 6, .putfield 102, 12, 0, 0), (5, 1, .aload_n 0, 0, 0, 0), 
  (6, 5, .getfield 289, 12, 58, 0), (9, 3, .ifCond .ne 5, 14, 0, 0), (12, 0, .iconst 0, 0, 0, 0), (13, 13, .ireturn, 0, 0, 0), 
  (14, 1, .aload_n 0, 0, 0, 0), (15, 1, .aload_n 0, 0, 0, 0), (16, 5, .getfield 475, 12, 59, 0), (19, 6, .putfield 283, 12, 42, 0), 
  (22, 1, .aload_n 0, 0, 0, 0), (23, 1, .aload_n 0, 0, 0, 0), (24, 5, .getfield 478, 12, 60, 0), (27, 6, .putfield 286, 12, 53, 0), 
  (30, 0, .iconst 0, 0, 0, 0), (31, 22, .istore_n 1, 0, 0, 0), (32, 1, .iload_n 1, 0, 0, 0), (33, 0, .bipush 79, 0, 0, 0), 
  (35, 3, .if_icmp .ge 21, 56, 0, 0), (38, 1, .aload_n 0, 0, 0, 0), (39, 5, .getfield 60, 12, 40, 0), (42, 1, .iload_n 1, 0, 0, 0), 
  (43, 1, .aload_n 0, 0, 0, 0), (44, 5, .getfield 93, 12, 61, 0), (47, 1, .iload_n 1, 0, 0, 0), (48, 7, .iaload, 0, 0, 0), (49, 8, .iastore, 0, 0, 0), 
  (50, 22, .iinc 1 1, 0, 0, 0), (53, 3, .goto (-21), 32, 0, 0), (56, 1, .aload_n 0, 0, 0, 0), (57, 1, .aload_n 0, 0, 0, 0), 
  (58, 5, .getfield 96, 12, 62, 0), (61, 1, .aload_n 0, 0, 0, 0), (62, 5, .getfield 63, 12, 41, 0), (65, 12, .invokevirtual 279, 217, 3, 13), 
  (68, 1, .aload_n 0, 0, 0, 0), (69, 1, .aload_n 0, 0, 0, 0), (70, 5, .getfield 99, 12, 63, 0), (73, 1, .aload_n 0, 0, 0, 0), 
  (74, 5, .getfield 84, 12, 54, 0), (77, 12, .invokevirtual 279, 217, 3, 13), (80, 0, .iconst 1, 0, 0, 0), (81, 13, .ireturn, 0, 0, 0)]
/-- TemperDownsLaw.county(LTemperDowns;I[J)I -/
noncomputable def zk305 : List (Nat × zJ) := [
  (0, 1, .aload_n 2, 0, 0, 0), (1, 0, .iconst 0, 0, 0, 0), (2, 1, .aload_n 0, 0, 0, 0), (3, 1, .iload_n 1, 0, 0, 0), 
  (4, 12, .invokevirtual 7, 151, 2, 12), (7, 0, .i2l, 0, 0, 0), (8, 8, .lastore, 0, 0, 0), (9, 3, .goto 6, 15, 0, 0), (12, 22, .astore_n 3, 0, 0, 0), 
  (13, 0, .iconst 1, 0, 0, 0), (14, 13, .ireturn, 0, 0, 0), (15, 0, .iconst 0, 0, 0, 0), (16, 13, .ireturn, 0, 0, 0)]
/-- TemperDownsLaw.count(LTemperDowns;I[J)I -/
noncomputable def zk306 : List (Nat × zJ) := [
  (0, 1, .aload_n 2, 0, 0, 0), (1, 0, .iconst 0, 0, 0, 0), (2, 1, .aload_n 0, 0, 0, 0), (3, 1, .iload_n 1, 0, 0, 0), 
  (4, 12, .invokevirtual 15, 152, 2, 12), (7, 0, .i2l, 0, 0, 0), (8, 8, .lastore, 0, 0, 0), (9, 3, .goto 6, 15, 0, 0), (12, 22, .astore_n 3, 0, 0, 0), 
  (13, 0, .iconst 1, 0, 0, 0), (14, 13, .ireturn, 0, 0, 0), (15, 0, .iconst 0, 0, 0, 0), (16, 13, .ireturn, 0, 0, 0)]
/-- TemperDownsLaw.person(LTemperDowns;II[J)I -/
noncomputable def zk307 : List (Nat × zJ) := [
  (0, 1, .aload_n 3, 0, 0, 0), (1, 0, .iconst 0, 0, 0, 0), (2, 1, .aload_n 0, 0, 0, 0), (3, 1, .iload_n 1, 0, 0, 0), (4, 1, .iload_n 2, 0, 0, 0), 
  (5, 12, .invokevirtual 20, 153, 3, 12), (8, 0, .i2l, 0, 0, 0), (9, 8, .lastore, 0, 0, 0), (10, 3, .goto 7, 17, 0, 0), (13, 22, .astore 4, 0, 0, 0), 
  (15, 0, .iconst 1, 0, 0, 0), (16, 13, .ireturn, 0, 0, 0), (17, 0, .iconst 0, 0, 0, 0), (18, 13, .ireturn, 0, 0, 0)]
/-- TemperDownsLaw.ball(LTemperDowns;II[J)I -/
noncomputable def zk308 : List (Nat × zJ) := [
  (0, 1, .aload_n 3, 0, 0, 0), (1, 0, .iconst 0, 0, 0, 0), (2, 1, .aload_n 0, 0, 0, 0), (3, 1, .iload_n 1, 0, 0, 0), (4, 1, .iload_n 2, 0, 0, 0), 
  (5, 12, .invokevirtual 24, 155, 3, 12), (8, 0, .i2l, 0, 0, 0), (9, 8, .lastore, 0, 0, 0), (10, 3, .goto 7, 17, 0, 0), (13, 22, .astore 4, 0, 0, 0), 
  (15, 0, .iconst 1, 0, 0, 0), (16, 13, .ireturn, 0, 0, 0), (17, 0, .iconst 0, 0, 0, 0), (18, 13, .ireturn, 0, 0, 0)]
/-- TemperDownsLaw.tread(LTemperDowns;I[J)I -/
noncomputable def zk309 : List (Nat × zJ) := [
  (0, 1, .aload_n 2, 0, 0, 0), (1, 0, .iconst 0, 0, 0, 0), (2, 1, .aload_n 0, 0, 0, 0), (3, 1, .iload_n 1, 0, 0, 0), 
  (4, 12, .invokevirtual 27, 157, 2, 12), (7, 0, .i2l, 0, 0, 0), (8, 8, .lastore, 0, 0, 0), (9, 3, .goto 6, 15, 0, 0), (12, 22, .astore_n 3, 0, 0, 0), 
  (13, 0, .iconst 1, 0, 0, 0), (14, 13, .ireturn, 0, 0, 0), (15, 0, .iconst 0, 0, 0, 0), (16, 13, .ireturn, 0, 0, 0)]
/-- TemperDownsLaw.carry(LTemperDowns;II[J)I -/
noncomputable def zk310 : List (Nat × zJ) := [
  (0, 1, .aload_n 3, 0, 0, 0), (1, 0, .iconst 0, 0, 0, 0), (2, 1, .aload_n 0, 0, 0, 0), (3, 1, .iload_n 1, 0, 0, 0), (4, 1, .iload_n 2, 0, 0, 0), 
  (5, 12, .invokevirtual 30, 158, 3, 12), (8, 0, .i2l, 0, 0, 0), (9, 8, .lastore, 0, 0, 0), (10, 3, .goto 7, 17, 0, 0), (13, 22, .astore 4, 0, 0, 0), 
  (15, 0, .iconst 1, 0, 0, 0), (16, 13, .ireturn, 0, 0, 0), (17, 0, .iconst 0, 0, 0, 0), (18, 13, .ireturn, 0, 0, 0)]
/-- TemperDownsLaw.guard(LTemperDowns;IZ[J)I -/
noncomputable def zk311 : List (Nat × zJ) := [
  (0, 1, .aload_n 3, 0, 0, 0), (1, 0, .iconst 0, 0, 0, 0), (2, 1, .aload_n 0, 0, 0, 0), (3, 1, .iload_n 1, 0, 0, 0), (4, 1, .iload_n 2, 0, 0, 0), 
  (5, 12, .invokevirtual 33, 160, 3, 12), (8, 3, .ifCond .eq 7, 15, 0, 0), (11, 0, .lconst 1, 0, 0, 0), (12, 3, .goto 4, 16, 0, 0), 
  (15, 0, .lconst 0, 0, 0, 0), (16, 8, .lastore, 0, 0, 0), (17, 3, .goto 7, 24, 0, 0), (20, 22, .astore 4, 0, 0, 0), (22, 0, .iconst 1, 0, 0, 0), 
  (23, 13, .ireturn, 0, 0, 0), (24, 0, .iconst 0, 0, 0, 0), (25, 13, .ireturn, 0, 0, 0)]
/-- TemperDownsLaw.soothe(LTemperDowns;II[J)I -/
noncomputable def zk312 : List (Nat × zJ) := [
  (0, 1, .aload_n 3, 0, 0, 0), (1, 0, .iconst 0, 0, 0, 0), (2, 1, .aload_n 0, 0, 0, 0), (3, 1, .iload_n 1, 0, 0, 0), (4, 1, .iload_n 2, 0, 0, 0), 
  (5, 12, .invokevirtual 37, 161, 3, 12), (8, 0, .i2l, 0, 0, 0), (9, 8, .lastore, 0, 0, 0), (10, 3, .goto 7, 17, 0, 0), (13, 22, .astore 4, 0, 0, 0), 
  (15, 0, .iconst 1, 0, 0, 0), (16, 13, .ireturn, 0, 0, 0), (17, 0, .iconst 0, 0, 0, 0), (18, 13, .ireturn, 0, 0, 0)]
/-- TemperDownsLaw.then(LTemperDowns;III[J)I -/
noncomputable def zk313 : List (Nat × zJ) := [
  (0, 1, .aload 4, 0, 0, 0), (2, 0, .iconst 0, 0, 0, 0), (3, 1, .aload_n 0, 0, 0, 0), (4, 1, .iload_n 1, 0, 0, 0), (5, 1, .iload_n 2, 0, 0, 0), 
  (6, 1, .iload_n 3, 0, 0, 0), (7, 12, .invokevirtual 40, 162, 4, 12), (10, 0, .i2l, 0, 0, 0), (11, 8, .lastore, 0, 0, 0), (12, 3, .goto 11, 23, 0, 0), 
  (15, 22, .astore 5, 0, 0, 0), (17, 0, .iconst 1, 0, 0, 0), (18, 13, .ireturn, 0, 0, 0), (19, 22, .astore 5, 0, 0, 0), (21, 0, .iconst 2, 0, 0, 0), 
  (22, 13, .ireturn, 0, 0, 0), (23, 0, .iconst 0, 0, 0, 0), (24, 13, .ireturn, 0, 0, 0)]
/-- TemperDownsLaw.mood(LTemperDowns;III[J)I -/
noncomputable def zk314 : List (Nat × zJ) := [
  (0, 1, .aload 4, 0, 0, 0), (2, 0, .iconst 0, 0, 0, 0), (3, 1, .aload_n 0, 0, 0, 0), (4, 1, .iload_n 1, 0, 0, 0), (5, 1, .iload_n 2, 0, 0, 0), 
  (6, 1, .iload_n 3, 0, 0, 0), (7, 12, .invokevirtual 44, 165, 4, 12), (10, 0, .i2l, 0, 0, 0), (11, 8, .lastore, 0, 0, 0), (12, 3, .goto 11, 23, 0, 0), 
  (15, 22, .astore 5, 0, 0, 0), (17, 0, .iconst 1, 0, 0, 0), (18, 13, .ireturn, 0, 0, 0), (19, 22, .astore 5, 0, 0, 0), (21, 0, .iconst 2, 0, 0, 0), 
  (22, 13, .ireturn, 0, 0, 0), (23, 0, .iconst 0, 0, 0, 0), (24, 13, .ireturn, 0, 0, 0)]
/-- TemperDownsLaw.off(LTemperDowns;I[J)I -/
noncomputable def zk315 : List (Nat × zJ) := [
  (0, 1, .aload_n 2, 0, 0, 0), (1, 0, .iconst 0, 0, 0, 0), (2, 1, .aload_n 0, 0, 0, 0), (3, 1, .iload_n 1, 0, 0, 0), 
  (4, 12, .invokevirtual 47, 166, 2, 12), (7, 0, .i2l, 0, 0, 0), (8, 8, .lastore, 0, 0, 0), (9, 3, .goto 6, 15, 0, 0), (12, 22, .astore_n 3, 0, 0, 0), 
  (13, 0, .iconst 1, 0, 0, 0), (14, 13, .ireturn, 0, 0, 0), (15, 0, .iconst 0, 0, 0, 0), (16, 13, .ireturn, 0, 0, 0)]
/-- TemperDownsLaw.later(LTemperDowns;II[J)I -/
noncomputable def zk316 : List (Nat × zJ) := [
  (0, 1, .aload_n 3, 0, 0, 0), (1, 0, .iconst 0, 0, 0, 0), (2, 1, .aload_n 0, 0, 0, 0), (3, 1, .iload_n 1, 0, 0, 0), (4, 1, .iload_n 2, 0, 0, 0), 
  (5, 12, .invokevirtual 50, 167, 3, 12), (8, 0, .i2l, 0, 0, 0), (9, 8, .lastore, 0, 0, 0), (10, 3, .goto 11, 21, 0, 0), (13, 22, .astore 4, 0, 0, 0), 
  (15, 0, .iconst 1, 0, 0, 0), (16, 13, .ireturn, 0, 0, 0), (17, 22, .astore 4, 0, 0, 0), (19, 0, .iconst 2, 0, 0, 0), (20, 13, .ireturn, 0, 0, 0), 
  (21, 0, .iconst 0, 0, 0, 0), (22, 13, .ireturn, 0, 0, 0)]
/-- TemperDownsLaw.toGuard(LTemperDowns;II[J)I -/
noncomputable def zk317 : List (Nat × zJ) := [
  (0, 1, .aload_n 3, 0, 0, 0), (1, 0, .iconst 0, 0, 0, 0), (2, 1, .aload_n 0, 0, 0, 0), (3, 1, .iload_n 1, 0, 0, 0), (4, 1, .iload_n 2, 0, 0, 0), 
  (5, 12, .invokevirtual 53, 168, 3, 12), (8, 0, .i2l, 0, 0, 0), (9, 8, .lastore, 0, 0, 0), (10, 3, .goto 7, 17, 0, 0), (13, 22, .astore 4, 0, 0, 0), 
  (15, 0, .iconst 1, 0, 0, 0), (16, 13, .ireturn, 0, 0, 0), (17, 0, .iconst 0, 0, 0, 0), (18, 13, .ireturn, 0, 0, 0)]
/-- TemperDownsLaw.fire(LTemperDowns;II[J)I -/
noncomputable def zk318 : List (Nat × zJ) := [
  (0, 1, .aload_n 3, 0, 0, 0), (1, 0, .iconst 0, 0, 0, 0), (2, 1, .aload_n 0, 0, 0, 0), (3, 1, .iload_n 1, 0, 0, 0), (4, 1, .iload_n 2, 0, 0, 0), 
  (5, 12, .invokevirtual 56, 169, 3, 12), (8, 0, .i2l, 0, 0, 0), (9, 8, .lastore, 0, 0, 0), (10, 3, .goto 7, 17, 0, 0), (13, 22, .astore 4, 0, 0, 0), 
  (15, 0, .iconst 1, 0, 0, 0), (16, 13, .ireturn, 0, 0, 0), (17, 0, .iconst 0, 0, 0, 0), (18, 13, .ireturn, 0, 0, 0)]
/-- TemperDownsLaw.pram(LTemperDowns;III[J)I -/
noncomputable def zk319 : List (Nat × zJ) := [
  (0, 1, .aload 4, 0, 0, 0), (2, 0, .iconst 0, 0, 0, 0), (3, 1, .aload_n 0, 0, 0, 0), (4, 1, .iload_n 1, 0, 0, 0), (5, 1, .iload_n 2, 0, 0, 0), 
  (6, 1, .iload_n 3, 0, 0, 0), (7, 12, .invokevirtual 59, 170, 4, 12), (10, 0, .i2l, 0, 0, 0), (11, 8, .lastore, 0, 0, 0), (12, 3, .goto 7, 19, 0, 0), 
  (15, 22, .astore 5, 0, 0, 0), (17, 0, .iconst 1, 0, 0, 0), (18, 13, .ireturn, 0, 0, 0), (19, 0, .iconst 0, 0, 0, 0), (20, 13, .ireturn, 0, 0, 0)]
/-- TemperDownsLaw.putBy(LTemperDowns;I[J)I -/
noncomputable def zk320 : List (Nat × zJ) := [
  (0, 1, .aload_n 2, 0, 0, 0), (1, 0, .iconst 0, 0, 0, 0), (2, 1, .aload_n 0, 0, 0, 0), (3, 1, .iload_n 1, 0, 0, 0), 
  (4, 12, .invokevirtual 62, 171, 2, 12), (7, 0, .i2l, 0, 0, 0), (8, 8, .lastore, 0, 0, 0), (9, 3, .goto 6, 15, 0, 0), (12, 22, .astore_n 3, 0, 0, 0), 
  (13, 0, .iconst 1, 0, 0, 0), (14, 13, .ireturn, 0, 0, 0), (15, 0, .iconst 0, 0, 0, 0), (16, 13, .ireturn, 0, 0, 0)]
/-- TemperDownsLaw.put(LTemperDowns;I[J)I -/
noncomputable def zk321 : List (Nat × zJ) := [
  (0, 1, .aload_n 2, 0, 0, 0), (1, 0, .iconst 0, 0, 0, 0), (2, 1, .aload_n 0, 0, 0, 0), (3, 1, .iload_n 1, 0, 0, 0), 
  (4, 12, .invokevirtual 65, 172, 2, 12), (7, 0, .i2l, 0, 0, 0), (8, 8, .lastore, 0, 0, 0), (9, 3, .goto 6, 15, 0, 0), (12, 22, .astore_n 3, 0, 0, 0), 
  (13, 0, .iconst 1, 0, 0, 0), (14, 13, .ireturn, 0, 0, 0), (15, 0, .iconst 0, 0, 0, 0), (16, 13, .ireturn, 0, 0, 0)]
/-- TemperDownsLaw.see(LTemperDowns;IIZ[J)I -/
noncomputable def zk322 : List (Nat × zJ) := [
  (0, 1, .aload 4, 0, 0, 0), (2, 0, .iconst 0, 0, 0, 0), (3, 1, .aload_n 0, 0, 0, 0), (4, 1, .iload_n 1, 0, 0, 0), (5, 1, .iload_n 2, 0, 0, 0), 
  (6, 1, .iload_n 3, 0, 0, 0), (7, 12, .invokevirtual 68, 173, 4, 12), (10, 0, .i2l, 0, 0, 0), (11, 8, .lastore, 0, 0, 0), (12, 3, .goto 7, 19, 0, 0), 
  (15, 22, .astore 5, 0, 0, 0), (17, 0, .iconst 1, 0, 0, 0), (18, 13, .ireturn, 0, 0, 0), (19, 0, .iconst 0, 0, 0, 0), (20, 13, .ireturn, 0, 0, 0)]
/-- TemperDownsLaw.milder(LTemperDowns;I[J)I -/
noncomputable def zk323 : List (Nat × zJ) := [
  (0, 1, .aload_n 2, 0, 0, 0), (1, 0, .iconst 0, 0, 0, 0), (2, 1, .aload_n 0, 0, 0, 0), (3, 1, .iload_n 1, 0, 0, 0), 
  (4, 12, .invokevirtual 72, 174, 2, 12), (7, 0, .i2l, 0, 0, 0), (8, 8, .lastore, 0, 0, 0), (9, 3, .goto 6, 15, 0, 0), (12, 22, .astore_n 3, 0, 0, 0), 
  (13, 0, .iconst 1, 0, 0, 0), (14, 13, .ireturn, 0, 0, 0), (15, 0, .iconst 0, 0, 0, 0), (16, 13, .ireturn, 0, 0, 0)]
/-- TemperDownsLaw.look(LTemperDowns;I[J)I -/
noncomputable def zk324 : List (Nat × zJ) := [
  (0, 1, .aload_n 2, 0, 0, 0), (1, 0, .iconst 0, 0, 0, 0), (2, 1, .aload_n 0, 0, 0, 0), (3, 1, .iload_n 1, 0, 0, 0), 
  (4, 12, .invokevirtual 75, 175, 2, 12), (7, 0, .i2l, 0, 0, 0), (8, 8, .lastore, 0, 0, 0), (9, 3, .goto 6, 15, 0, 0), (12, 22, .astore_n 3, 0, 0, 0), 
  (13, 0, .iconst 1, 0, 0, 0), (14, 13, .ireturn, 0, 0, 0), (15, 0, .iconst 0, 0, 0, 0), (16, 13, .ireturn, 0, 0, 0)]
/-- TemperDownsLaw.boys(LTemperDowns;III[J)I -/
noncomputable def zk325 : List (Nat × zJ) := [
  (0, 1, .aload 4, 0, 0, 0), (2, 0, .iconst 0, 0, 0, 0), (3, 1, .aload_n 0, 0, 0, 0), (4, 1, .iload_n 1, 0, 0, 0), (5, 1, .iload_n 2, 0, 0, 0), 
  (6, 1, .iload_n 3, 0, 0, 0), (7, 12, .invokevirtual 78, 176, 4, 12), (10, 0, .i2l, 0, 0, 0), (11, 8, .lastore, 0, 0, 0), (12, 3, .goto 11, 23, 0, 0), 
  (15, 22, .astore 5, 0, 0, 0), (17, 0, .iconst 1, 0, 0, 0), (18, 13, .ireturn, 0, 0, 0), (19, 22, .astore 5, 0, 0, 0), (21, 0, .iconst 2, 0, 0, 0), 
  (22, 13, .ireturn, 0, 0, 0), (23, 0, .iconst 0, 0, 0, 0), (24, 13, .ireturn, 0, 0, 0)]
/-- TemperDownsLaw.game(LTemperDowns;III[J)I -/
noncomputable def zk326 : List (Nat × zJ) := [
  (0, 1, .aload 4, 0, 0, 0), (2, 0, .iconst 0, 0, 0, 0), (3, 1, .aload_n 0, 0, 0, 0), (4, 1, .iload_n 1, 0, 0, 0), (5, 1, .iload_n 2, 0, 0, 0), 
  (6, 1, .iload_n 3, 0, 0, 0), (7, 12, .invokevirtual 81, 177, 4, 12), (10, 0, .i2l, 0, 0, 0), (11, 8, .lastore, 0, 0, 0), (12, 3, .goto 11, 23, 0, 0), 
  (15, 22, .astore 5, 0, 0, 0), (17, 0, .iconst 1, 0, 0, 0), (18, 13, .ireturn, 0, 0, 0), (19, 22, .astore 5, 0, 0, 0), (21, 0, .iconst 2, 0, 0, 0), 
  (22, 13, .ireturn, 0, 0, 0), (23, 0, .iconst 0, 0, 0, 0), (24, 13, .ireturn, 0, 0, 0)]
/-- TemperDownsLaw.years(LTemperDowns;III[J)I -/
noncomputable def zk327 : List (Nat × zJ) := [
  (0, 1, .aload 4, 0, 0, 0), (2, 0, .iconst 0, 0, 0, 0), (3, 1, .aload_n 0, 0, 0, 0), (4, 1, .iload_n 1, 0, 0, 0), (5, 1, .iload_n 2, 0, 0, 0), 
  (6, 1, .iload_n 3, 0, 0, 0), (7, 12, .invokevirtual 84, 178, 4, 12), (10, 0, .i2l, 0, 0, 0), (11, 8, .lastore, 0, 0, 0), (12, 3, .goto 11, 23, 0, 0), 
  (15, 22, .astore 5, 0, 0, 0), (17, 0, .iconst 1, 0, 0, 0), (18, 13, .ireturn, 0, 0, 0), (19, 22, .astore 5, 0, 0, 0), (21, 0, .iconst 2, 0, 0, 0), 
  (22, 13, .ireturn, 0, 0, 0), (23, 0, .iconst 0, 0, 0, 0), (24, 13, .ireturn, 0, 0, 0)]
/-- TemperDownsLaw.cell(LTemperDowns;II[J)I -/
noncomputable def zk328 : List (Nat × zJ) := [
  (0, 1, .aload_n 3, 0, 0, 0), (1, 0, .iconst 0, 0, 0, 0), (2, 1, .aload_n 0, 0, 0, 0), (3, 1, .iload_n 1, 0, 0, 0), (4, 1, .iload_n 2, 0, 0, 0), 
  (5, 12, .invokevirtual 87, 179, 3, 12), (8, 0, .i2l, 0, 0, 0), (9, 8, .lastore, 0, 0, 0), (10, 3, .goto 7, 17, 0, 0), (13, 22, .astore 4, 0, 0, 0), 
  (15, 0, .iconst 1, 0, 0, 0), (16, 13, .ireturn, 0, 0, 0), (17, 0, .iconst 0, 0, 0, 0), (18, 13, .ireturn, 0, 0, 0)]
/-- TemperDownsLaw.when(LTemperDowns;II[J)I -/
noncomputable def zk329 : List (Nat × zJ) := [
  (0, 1, .aload_n 3, 0, 0, 0), (1, 0, .iconst 0, 0, 0, 0), (2, 1, .aload_n 0, 0, 0, 0), (3, 1, .iload_n 1, 0, 0, 0), (4, 1, .iload_n 2, 0, 0, 0), 
  (5, 12, .invokevirtual 90, 180, 3, 12), (8, 0, .i2l, 0, 0, 0), (9, 8, .lastore, 0, 0, 0), (10, 3, .goto 7, 17, 0, 0), (13, 22, .astore 4, 0, 0, 0), 
  (15, 0, .iconst 1, 0, 0, 0), (16, 13, .ireturn, 0, 0, 0), (17, 0, .iconst 0, 0, 0, 0), (18, 13, .ireturn, 0, 0, 0)]
/-- TemperDownsLaw.ahead(LTemperDowns;II[J)I -/
noncomputable def zk330 : List (Nat × zJ) := [
  (0, 1, .aload_n 3, 0, 0, 0), (1, 0, .iconst 0, 0, 0, 0), (2, 1, .aload_n 0, 0, 0, 0), (3, 1, .iload_n 1, 0, 0, 0), (4, 1, .iload_n 2, 0, 0, 0), 
  (5, 12, .invokevirtual 93, 181, 3, 12), (8, 0, .i2l, 0, 0, 0), (9, 8, .lastore, 0, 0, 0), (10, 3, .goto 11, 21, 0, 0), (13, 22, .astore 4, 0, 0, 0), 
  (15, 0, .iconst 1, 0, 0, 0), (16, 13, .ireturn, 0, 0, 0), (17, 22, .astore 4, 0, 0, 0), (19, 0, .iconst 2, 0, 0, 0), (20, 13, .ireturn, 0, 0, 0), 
  (21, 0, .iconst 0, 0, 0, 0), (22, 13, .ireturn, 0, 0, 0)]
/-- TemperDownsLaw.stays(LTemperDowns;II[J)I -/
noncomputable def zk331 : List (Nat × zJ) := [
  (0, 1, .aload_n 3, 0, 0, 0), (1, 0, .iconst 0, 0, 0, 0), (2, 1, .aload_n 0, 0, 0, 0), (3, 1, .iload_n 1, 0, 0, 0), (4, 1, .iload_n 2, 0, 0, 0), 
  (5, 12, .invokevirtual 96, 182, 3, 12), (8, 0, .i2l, 0, 0, 0), (9, 8, .lastore, 0, 0, 0), (10, 3, .goto 11, 21, 0, 0), (13, 22, .astore 4, 0, 0, 0), 
  (15, 0, .iconst 1, 0, 0, 0), (16, 13, .ireturn, 0, 0, 0), (17, 22, .astore 4, 0, 0, 0), (19, 0, .iconst 2, 0, 0, 0), (20, 13, .ireturn, 0, 0, 0), 
  (21, 0, .iconst 0, 0, 0, 0), (22, 13, .ireturn, 0, 0, 0)]
/-- java/lang/Integer.bitCount(I)I -/
noncomputable def zk332 : List (Nat × zJ) := [
  (0, 1, .iload_n 0, 0, 0, 0), (1, 1, .iload_n 0, 0, 0, 0), (2, 0, .iconst 1, 0, 0, 0), (3, 0, .iushr, 0, 0, 0), (4, 16, .ldc_w 265, 1431655765, 0, 0), 
  (7, 0, .iand, 0, 0, 0), (8, 0, .isub, 0, 0, 0), (9, 22, .istore_n 0, 0, 0, 0), (10, 1, .iload_n 0, 0, 0, 0), (11, 16, .ldc_w 266, 858993459, 0, 0), 
  (14, 0, .iand, 0, 0, 0), (15, 1, .iload_n 0, 0, 0, 0), (16, 0, .iconst 2, 0, 0, 0), (17, 0, .iushr, 0, 0, 0), (18, 16, .ldc_w 266, 858993459, 0, 0), 
  (21, 0, .iand, 0, 0, 0), (22, 0, .iadd, 0, 0, 0), (23, 22, .istore_n 0, 0, 0, 0), (24, 1, .iload_n 0, 0, 0, 0), (25, 1, .iload_n 0, 0, 0, 0), 
  (26, 0, .iconst 4, 0, 0, 0), (27, 0, .iushr, 0, 0, 0), (28, 0, .iadd, 0, 0, 0), (29, 16, .ldc_w 267, 252645135, 0, 0), (32, 0, .iand, 0, 0, 0), 
  (33, 22, .istore_n 0, 0, 0, 0), (34, 1, .iload_n 0, 0, 0, 0), (35, 1, .iload_n 0, 0, 0, 0), (36, 0, .bipush 8, 0, 0, 0), (38, 0, .iushr, 0, 0, 0), 
  (39, 0, .iadd, 0, 0, 0), (40, 22, .istore_n 0, 0, 0, 0), (41, 1, .iload_n 0, 0, 0, 0), (42, 1, .iload_n 0, 0, 0, 0), (43, 0, .bipush 16, 0, 0, 0), 
  (45, 0, .iushr, 0, 0, 0), (46, 0, .iadd, 0, 0, 0), (47, 22, .istore_n 0, 0, 0, 0), (48, 1, .iload_n 0, 0, 0, 0), (49, 0, .bipush 63, 0, 0, 0), 
  (51, 0, .iand, 0, 0, 0), (52, 13, .ireturn, 0, 0, 0)]
/-- java/lang/String.indexOf(I)I -/
noncomputable def zk333 : List (Nat × zJ) := [
  (0, 1, .aload_n 0, 0, 0, 0), (1, 1, .iload_n 1, 0, 0, 0), (2, 0, .iconst 0, 0, 0, 0), (3, 12, .invokevirtual 633, 334, 3, 101), 
  (6, 13, .ireturn, 0, 0, 0)]
/-- java/lang/String.indexOf(II)I -/
noncomputable def zk334 : List (Nat × zJ) := [
  (0, 1, .aload_n 0, 0, 0, 0), (1, 12, .invokevirtual 492, 335, 1, 101), (4, 3, .ifCond .eq 19, 23, 0, 0), (7, 1, .aload_n 0, 0, 0, 0), 
  (8, 5, .getfield 9, 100, 0, 0), (11, 1, .iload_n 1, 0, 0, 0), (12, 1, .iload_n 2, 0, 0, 0), (13, 1, .aload_n 0, 0, 0, 0), 
  (14, 12, .invokevirtual 505, 336, 1, 101), (17, 12, .invokestatic 637, 340, 4, 0), (20, 3, .goto 16, 36, 0, 0), (23, 1, .aload_n 0, 0, 0, 0), 
  (24, 5, .getfield 9, 100, 0, 0), (27, 1, .iload_n 1, 0, 0, 0), (28, 1, .iload_n 2, 0, 0, 0), (29, 1, .aload_n 0, 0, 0, 0), 
  (30, 12, .invokevirtual 505, 336, 1, 101), (36, 13, .ireturn, 0, 0, 0)]
/-- java/lang/String.isLatin1()Z -/
noncomputable def zk335 : List (Nat × zJ) := [
  (0, 18, .getstatic 38, 0, 0, 0), (3, 3, .ifCond .eq 14, 17, 0, 0), (6, 1, .aload_n 0, 0, 0, 0), (7, 5, .getfield 15, 100, 1, 0), 
  (10, 3, .ifCond .ne 7, 17, 0, 0), (13, 0, .iconst 1, 0, 0, 0), (14, 3, .goto 4, 18, 0, 0), (17, 0, .iconst 0, 0, 0, 0), (18, 13, .ireturn, 0, 0, 0)]
/-- java/lang/String.length()I -/
noncomputable def zk336 : List (Nat × zJ) := [
  (0, 1, .aload_n 0, 0, 0, 0), (1, 5, .getfield 9, 100, 0, 0), (4, 9, .arraylength, 0, 0, 0), (5, 1, .aload_n 0, 0, 0, 0), 
  (6, 12, .invokevirtual 335, 337, 1, 101), (9, 0, .ishr, 0, 0, 0), (10, 13, .ireturn, 0, 0, 0)]
/-- java/lang/String.coder()B -/
noncomputable def zk337 : List (Nat × zJ) := [
  (0, 18, .getstatic 38, 0, 0, 0), (3, 3, .ifCond .eq 10, 13, 0, 0), (6, 1, .aload_n 0, 0, 0, 0), (7, 5, .getfield 15, 100, 1, 0), 
  (10, 3, .goto 4, 14, 0, 0), (13, 0, .iconst 1, 0, 0, 0), (14, 13, .ireturn, 0, 0, 0)]
/-- java/lang/String.charAt(I)C -/
noncomputable def zk338 : List (Nat × zJ) := [
  (0, 1, .aload_n 0, 0, 0, 0), (1, 12, .invokevirtual 492, 335, 1, 101), (4, 3, .ifCond .eq 12, 16, 0, 0), (7, 1, .aload_n 0, 0, 0, 0), 
  (8, 5, .getfield 9, 100, 0, 0), (11, 1, .iload_n 1, 0, 0, 0), (12, 12, .invokestatic 495, 343, 2, 0), (15, 13, .ireturn, 0, 0, 0), 
  (16, 1, .aload_n 0, 0, 0, 0), (17, 5, .getfield 9, 100, 0, 0), (20, 1, .iload_n 1, 0, 0, 0), (24, 13, .ireturn, 0, 0, 0)]
/-- java/lang/String.checkIndex(II)V -/
noncomputable def zk339 : List (Nat × zJ) := [
  (0, 1, .iload_n 0, 0, 0, 0), (1, 1, .iload_n 1, 0, 0, 0), (2, 18, .getstatic 1053, 1, 59, 0), (5, 12, .invokestatic 1059, 344, 3, 0), 
  (8, 0, .pop, 0, 0, 0), (9, 13, .return_, 0, 0, 0)]
/-- java/lang/StringLatin1.indexOf([BIII)I -/
noncomputable def zk340 : List (Nat × zJ) := [
  (0, 1, .iload_n 1, 0, 0, 0), (1, 12, .invokestatic 88, 341, 1, 0), (4, 3, .ifCond .ne 5, 9, 0, 0), (7, 0, .iconst (-1), 0, 0, 0), 
  (8, 13, .ireturn, 0, 0, 0), (9, 1, .iload_n 2, 0, 0, 0), (10, 0, .iconst 0, 0, 0, 0), (11, 21, .invokestatic 92, 1, 0, 0), 
  (14, 22, .istore_n 2, 0, 0, 0), (15, 1, .iload_n 3, 0, 0, 0), (16, 1, .aload_n 0, 0, 0, 0), (17, 9, .arraylength, 0, 0, 0), 
  (18, 21, .invokestatic 38, 0, 0, 0), (21, 22, .istore_n 3, 0, 0, 0), (22, 1, .iload_n 2, 0, 0, 0), (23, 1, .iload_n 3, 0, 0, 0), 
  (24, 3, .if_icmp .lt 5, 29, 0, 0), (27, 0, .iconst (-1), 0, 0, 0), (28, 13, .ireturn, 0, 0, 0), (29, 1, .aload_n 0, 0, 0, 0), 
  (30, 1, .iload_n 1, 0, 0, 0), (31, 1, .iload_n 2, 0, 0, 0), (32, 1, .iload_n 3, 0, 0, 0), (33, 12, .invokestatic 95, 342, 4, 0), 
  (36, 13, .ireturn, 0, 0, 0)]
/-- java/lang/StringLatin1.canEncode(I)Z -/
noncomputable def zk341 : List (Nat × zJ) := [
  (0, 1, .iload_n 0, 0, 0, 0), (1, 3, .ifCond .lt 14, 15, 0, 0), (4, 1, .iload_n 0, 0, 0, 0), (5, 0, .sipush 255, 0, 0, 0), 
  (8, 3, .if_icmp .gt 7, 15, 0, 0), (11, 0, .iconst 1, 0, 0, 0), (12, 3, .goto 4, 16, 0, 0), (15, 0, .iconst 0, 0, 0, 0), (16, 13, .ireturn, 0, 0, 0)]
/-- java/lang/StringLatin1.indexOfChar([BIII)I -/
noncomputable def zk342 : List (Nat × zJ) := [
  (0, 1, .iload_n 1, 0, 0, 0), (1, 0, .i2b, 0, 0, 0), (2, 22, .istore 4, 0, 0, 0), (4, 1, .iload_n 2, 0, 0, 0), (5, 22, .istore 5, 0, 0, 0), 
  (7, 1, .iload 5, 0, 0, 0), (9, 1, .iload_n 3, 0, 0, 0), (10, 3, .if_icmp .ge 21, 31, 0, 0), (13, 1, .aload_n 0, 0, 0, 0), (14, 1, .iload 5, 0, 0, 0), 
  (16, 7, .baload, 0, 0, 0), (17, 1, .iload 4, 0, 0, 0), (19, 3, .if_icmp .ne 6, 25, 0, 0), (22, 1, .iload 5, 0, 0, 0), (24, 13, .ireturn, 0, 0, 0), 
  (25, 22, .iinc 5 1, 0, 0, 0), (28, 3, .goto (-21), 7, 0, 0), (31, 0, .iconst (-1), 0, 0, 0), (32, 13, .ireturn, 0, 0, 0)]
/-- java/lang/StringLatin1.charAt([BI)C -/
noncomputable def zk343 : List (Nat × zJ) := [
  (0, 1, .iload_n 1, 0, 0, 0), (1, 1, .aload_n 0, 0, 0, 0), (2, 9, .arraylength, 0, 0, 0), (3, 12, .invokestatic 9, 339, 2, 0), 
  (6, 1, .aload_n 0, 0, 0, 0), (7, 1, .iload_n 1, 0, 0, 0), (8, 7, .baload, 0, 0, 0), (9, 0, .sipush 255, 0, 0, 0), (12, 0, .iand, 0, 0, 0), 
  (13, 0, .i2c, 0, 0, 0), (14, 13, .ireturn, 0, 0, 0)]
/-- jdk/internal/util/Preconditions.checkIndex(IILjava/util/function/BiFunction;)I -/
noncomputable def zk344 : List (Nat × zJ) := [
  (0, 1, .iload_n 0, 0, 0, 0), (1, 3, .ifCond .lt 8, 9, 0, 0), (4, 1, .iload_n 0, 0, 0, 0), (5, 1, .iload_n 1, 0, 0, 0), 
  (6, 3, .if_icmp .lt 10, 16, 0, 0), (9, 1, .aload_n 2, 0, 0, 0), (10, 1, .iload_n 0, 0, 0, 0), (11, 1, .iload_n 1, 0, 0, 0), 
  (16, 1, .iload_n 0, 0, 0, 0), (17, 13, .ireturn, 0, 0, 0)]
/-- TemperDownsLaw.law([I)Z -/
noncomputable def zk345_0 : List (Nat × zJ) := [
  (0, 10, .new 8, 11, 0, 0), (3, 0, .dup, 0, 0, 0), (4, 12, .invokespecial 99, 140, 1, 99), (7, 22, .astore_n 1, 0, 0, 0), (8, 10, .new 100, 12, 0, 0), 
  (11, 0, .dup, 0, 0, 0), (12, 12, .invokespecial 102, 183, 1, 99), (15, 22, .astore_n 2, 0, 0, 0), (16, 0, .iconst 1, 0, 0, 0), 
  (17, 11, .newarray .long, 0, 0, 0), (19, 22, .astore_n 3, 0, 0, 0), (20, 0, .iconst 0, 0, 0, 0), (21, 22, .istore 4, 0, 0, 0), 
  (23, 1, .iload 4, 0, 0, 0), (25, 1, .aload_n 0, 0, 0, 0), (26, 9, .arraylength, 0, 0, 0), (27, 0, .bipush 6, 0, 0, 0), (29, 0, .isub, 0, 0, 0), 
  (30, 3, .if_icmp .gt 2207, 2237, 0, 0), (33, 1, .aload_n 0, 0, 0, 0), (34, 1, .iload 4, 0, 0, 0), (36, 7, .iaload, 0, 0, 0), 
  (37, 0, .bipush 63, 0, 0, 0), (39, 0, .iand, 0, 0, 0), 
  (40, 4, .tableswitch 2191 0 34 #[156, 229, 285, 298, 354, 422, 490, 515, 571, 639, 730, 798, 811, 891, 971, 1027, 1040, 1108, 1176, 1244, 1324, 1380, 1436, 1532, 1543, 1599, 1655, 1735, 1815, 1895, 1963, 2031, 2099, 2167, 2178], 0, 0, 0), 
  (196, 1, .aload_n 1, 0, 0, 0), (197, 1, .aload_n 0, 0, 0, 0), (198, 1, .iload 4, 0, 0, 0), (200, 0, .iconst 1, 0, 0, 0), (201, 0, .iadd, 0, 0, 0), 
  (202, 7, .iaload, 0, 0, 0), (203, 1, .aload_n 0, 0, 0, 0), (204, 1, .iload 4, 0, 0, 0), (206, 0, .iconst 2, 0, 0, 0), (207, 0, .iadd, 0, 0, 0), 
  (208, 7, .iaload, 0, 0, 0), (209, 1, .aload_n 0, 0, 0, 0), (210, 1, .iload 4, 0, 0, 0), (212, 0, .iconst 3, 0, 0, 0), (213, 0, .iadd, 0, 0, 0), 
  (214, 7, .iaload, 0, 0, 0), (215, 1, .aload_n 0, 0, 0, 0), (216, 1, .iload 4, 0, 0, 0), (218, 0, .iconst 4, 0, 0, 0), (219, 0, .iadd, 0, 0, 0), 
  (220, 7, .iaload, 0, 0, 0), (221, 1, .aload_n 0, 0, 0, 0), (222, 1, .iload 4, 0, 0, 0), (224, 0, .iconst 5, 0, 0, 0), (225, 0, .iadd, 0, 0, 0), 
  (226, 7, .iaload, 0, 0, 0), (227, 12, .invokevirtual 103, 141, 6, 12), (230, 1, .aload_n 2, 0, 0, 0), (231, 1, .aload_n 0, 0, 0, 0), 
  (232, 1, .iload 4, 0, 0, 0), (234, 0, .iconst 1, 0, 0, 0), (235, 0, .iadd, 0, 0, 0), (236, 7, .iaload, 0, 0, 0), (237, 1, .aload_n 0, 0, 0, 0), 
  (238, 1, .iload 4, 0, 0, 0), (240, 0, .iconst 2, 0, 0, 0), (241, 0, .iadd, 0, 0, 0), (242, 7, .iaload, 0, 0, 0), (243, 1, .aload_n 0, 0, 0, 0), 
  (244, 1, .iload 4, 0, 0, 0), (246, 0, .iconst 3, 0, 0, 0), (247, 0, .iadd, 0, 0, 0), (248, 7, .iaload, 0, 0, 0), (249, 1, .aload_n 0, 0, 0, 0), 
  (250, 1, .iload 4, 0, 0, 0), (252, 0, .iconst 4, 0, 0, 0), (253, 0, .iadd, 0, 0, 0), (254, 7, .iaload, 0, 0, 0), (255, 1, .aload_n 0, 0, 0, 0), 
  (256, 1, .iload 4, 0, 0, 0), (258, 0, .iconst 5, 0, 0, 0), (259, 0, .iadd, 0, 0, 0), (260, 7, .iaload, 0, 0, 0), 
  (261, 12, .invokevirtual 107, 185, 6, 13), (264, 3, .if_icmp .eq 1967, 2231, 0, 0), (267, 0, .iconst 0, 0, 0, 0), (268, 13, .ireturn, 0, 0, 0), 
  (269, 1, .aload_n 1, 0, 0, 0), (270, 1, .aload_n 0, 0, 0, 0), (271, 1, .iload 4, 0, 0, 0), (273, 0, .iconst 1, 0, 0, 0), (274, 0, .iadd, 0, 0, 0), 
  (275, 7, .iaload, 0, 0, 0), (276, 1, .aload_n 3, 0, 0, 0), (277, 12, .invokestatic 108, 305, 3, 0), (280, 22, .istore 5, 0, 0, 0), 
  (282, 1, .aload_n 2, 0, 0, 0), (283, 1, .aload_n 0, 0, 0, 0), (284, 1, .iload 4, 0, 0, 0), (286, 0, .iconst 1, 0, 0, 0), (287, 0, .iadd, 0, 0, 0), 
  (288, 7, .iaload, 0, 0, 0), (289, 12, .invokevirtual 113, 187, 2, 13), (292, 22, .istore 6, 0, 0, 0), (294, 1, .aload_n 2, 0, 0, 0), 
  (295, 12, .invokevirtual 114, 184, 1, 13), (298, 1, .iload 5, 0, 0, 0), (300, 3, .if_icmp .eq 5, 305, 0, 0), (303, 0, .iconst 0, 0, 0, 0), 
  (304, 13, .ireturn, 0, 0, 0), (305, 1, .iload 5, 0, 0, 0), (307, 3, .ifCond .ne 15, 322, 0, 0), (310, 1, .aload_n 3, 0, 0, 0), 
  (311, 0, .iconst 0, 0, 0, 0), (312, 7, .laload, 0, 0, 0), (313, 1, .iload 6, 0, 0, 0), (315, 0, .i2l, 0, 0, 0), (316, 0, .lcmp, 0, 0, 0), 
  (317, 3, .ifCond .eq 5, 322, 0, 0), (320, 0, .iconst 0, 0, 0, 0), (321, 13, .ireturn, 0, 0, 0), (322, 3, .goto 1909, 2231, 0, 0), 
  (325, 1, .aload_n 1, 0, 0, 0), (326, 12, .invokevirtual 118, 143, 1, 12), (329, 1, .aload_n 2, 0, 0, 0)]
noncomputable def zk345_1 : List (Nat × zJ) := [
  (330, 12, .invokevirtual 121, 218, 1, 13), (333, 3, .if_icmp .eq 1898, 2231, 0, 0), (336, 0, .iconst 0, 0, 0, 0), (337, 13, .ireturn, 0, 0, 0), 
  (338, 1, .aload_n 1, 0, 0, 0), (339, 1, .aload_n 0, 0, 0, 0), (340, 1, .iload 4, 0, 0, 0), (342, 0, .iconst 1, 0, 0, 0), (343, 0, .iadd, 0, 0, 0), 
  (344, 7, .iaload, 0, 0, 0), (345, 1, .aload_n 3, 0, 0, 0), (346, 12, .invokestatic 122, 306, 3, 0), (349, 22, .istore 5, 0, 0, 0), 
  (351, 1, .aload_n 2, 0, 0, 0), (352, 1, .aload_n 0, 0, 0, 0), (353, 1, .iload 4, 0, 0, 0), (355, 0, .iconst 1, 0, 0, 0), (356, 0, .iadd, 0, 0, 0), 
  (357, 7, .iaload, 0, 0, 0), (358, 12, .invokevirtual 124, 220, 2, 13), (361, 22, .istore 6, 0, 0, 0), (363, 1, .aload_n 2, 0, 0, 0), 
  (364, 12, .invokevirtual 114, 184, 1, 13), (367, 1, .iload 5, 0, 0, 0), (369, 3, .if_icmp .eq 5, 374, 0, 0), (372, 0, .iconst 0, 0, 0, 0), 
  (373, 13, .ireturn, 0, 0, 0), (374, 1, .iload 5, 0, 0, 0), (376, 3, .ifCond .ne 15, 391, 0, 0), (379, 1, .aload_n 3, 0, 0, 0), 
  (380, 0, .iconst 0, 0, 0, 0), (381, 7, .laload, 0, 0, 0), (382, 1, .iload 6, 0, 0, 0), (384, 0, .i2l, 0, 0, 0), (385, 0, .lcmp, 0, 0, 0), 
  (386, 3, .ifCond .eq 5, 391, 0, 0), (389, 0, .iconst 0, 0, 0, 0), (390, 13, .ireturn, 0, 0, 0), (391, 3, .goto 1840, 2231, 0, 0), 
  (394, 1, .aload_n 1, 0, 0, 0), (395, 1, .aload_n 0, 0, 0, 0), (396, 1, .iload 4, 0, 0, 0), (398, 0, .iconst 1, 0, 0, 0), (399, 0, .iadd, 0, 0, 0), 
  (400, 7, .iaload, 0, 0, 0), (401, 1, .aload_n 0, 0, 0, 0), (402, 1, .iload 4, 0, 0, 0), (404, 0, .iconst 2, 0, 0, 0), (405, 0, .iadd, 0, 0, 0), 
  (406, 7, .iaload, 0, 0, 0), (407, 1, .aload_n 3, 0, 0, 0), (408, 12, .invokestatic 125, 307, 4, 0), (411, 22, .istore 5, 0, 0, 0), 
  (413, 1, .aload_n 2, 0, 0, 0), (414, 1, .aload_n 0, 0, 0, 0), (415, 1, .iload 4, 0, 0, 0), (417, 0, .iconst 1, 0, 0, 0), (418, 0, .iadd, 0, 0, 0), 
  (419, 7, .iaload, 0, 0, 0), (420, 1, .aload_n 0, 0, 0, 0), (421, 1, .iload 4, 0, 0, 0), (423, 0, .iconst 2, 0, 0, 0), (424, 0, .iadd, 0, 0, 0), 
  (425, 7, .iaload, 0, 0, 0), (426, 12, .invokevirtual 128, 233, 3, 13), (429, 22, .istore 6, 0, 0, 0), (431, 1, .aload_n 2, 0, 0, 0), 
  (432, 12, .invokevirtual 114, 184, 1, 13), (435, 1, .iload 5, 0, 0, 0), (437, 3, .if_icmp .eq 5, 442, 0, 0), (440, 0, .iconst 0, 0, 0, 0), 
  (441, 13, .ireturn, 0, 0, 0), (442, 1, .iload 5, 0, 0, 0), (444, 3, .ifCond .ne 15, 459, 0, 0), (447, 1, .aload_n 3, 0, 0, 0), 
  (448, 0, .iconst 0, 0, 0, 0), (449, 7, .laload, 0, 0, 0), (450, 1, .iload 6, 0, 0, 0), (452, 0, .i2l, 0, 0, 0), (453, 0, .lcmp, 0, 0, 0), 
  (454, 3, .ifCond .eq 5, 459, 0, 0), (457, 0, .iconst 0, 0, 0, 0), (458, 13, .ireturn, 0, 0, 0), (459, 3, .goto 1772, 2231, 0, 0), 
  (462, 1, .aload_n 1, 0, 0, 0), (463, 1, .aload_n 0, 0, 0, 0), (464, 1, .iload 4, 0, 0, 0), (466, 0, .iconst 1, 0, 0, 0), (467, 0, .iadd, 0, 0, 0), 
  (468, 7, .iaload, 0, 0, 0), (469, 1, .aload_n 0, 0, 0, 0), (470, 1, .iload 4, 0, 0, 0), (472, 0, .iconst 2, 0, 0, 0), (473, 0, .iadd, 0, 0, 0), 
  (474, 7, .iaload, 0, 0, 0), (475, 1, .aload_n 3, 0, 0, 0), (476, 12, .invokestatic 129, 308, 4, 0), (479, 22, .istore 5, 0, 0, 0), 
  (481, 1, .aload_n 2, 0, 0, 0), (482, 1, .aload_n 0, 0, 0, 0), (483, 1, .iload 4, 0, 0, 0), (485, 0, .iconst 1, 0, 0, 0), (486, 0, .iadd, 0, 0, 0), 
  (487, 7, .iaload, 0, 0, 0), (488, 1, .aload_n 0, 0, 0, 0), (489, 1, .iload 4, 0, 0, 0), (491, 0, .iconst 2, 0, 0, 0), (492, 0, .iadd, 0, 0, 0), 
  (493, 7, .iaload, 0, 0, 0), (494, 12, .invokevirtual 131, 238, 3, 13), (497, 22, .istore 6, 0, 0, 0), (499, 1, .aload_n 2, 0, 0, 0), 
  (500, 12, .invokevirtual 114, 184, 1, 13), (503, 1, .iload 5, 0, 0, 0), (505, 3, .if_icmp .eq 5, 510, 0, 0), (508, 0, .iconst 0, 0, 0, 0), 
  (509, 13, .ireturn, 0, 0, 0), (510, 1, .iload 5, 0, 0, 0), (512, 3, .ifCond .ne 15, 527, 0, 0), (515, 1, .aload_n 3, 0, 0, 0)]
noncomputable def zk345_2 : List (Nat × zJ) := [
  (516, 0, .iconst 0, 0, 0, 0), (517, 7, .laload, 0, 0, 0), (518, 1, .iload 6, 0, 0, 0), (520, 0, .i2l, 0, 0, 0), (521, 0, .lcmp, 0, 0, 0), 
  (522, 3, .ifCond .eq 5, 527, 0, 0), (525, 0, .iconst 0, 0, 0, 0), (526, 13, .ireturn, 0, 0, 0), (527, 3, .goto 1704, 2231, 0, 0), 
  (530, 1, .aload_n 1, 0, 0, 0), (531, 1, .aload_n 0, 0, 0, 0), (532, 1, .iload 4, 0, 0, 0), (534, 0, .iconst 1, 0, 0, 0), (535, 0, .iadd, 0, 0, 0), 
  (536, 7, .iaload, 0, 0, 0), (537, 12, .invokevirtual 132, 144, 2, 12), (540, 1, .aload_n 2, 0, 0, 0), (541, 1, .aload_n 0, 0, 0, 0), 
  (542, 1, .iload 4, 0, 0, 0), (544, 0, .iconst 1, 0, 0, 0), (545, 0, .iadd, 0, 0, 0), (546, 7, .iaload, 0, 0, 0), 
  (547, 12, .invokevirtual 135, 242, 2, 13), (550, 3, .if_icmp .eq 1681, 2231, 0, 0), (553, 0, .iconst 0, 0, 0, 0), (554, 13, .ireturn, 0, 0, 0), 
  (555, 1, .aload_n 1, 0, 0, 0), (556, 1, .aload_n 0, 0, 0, 0), (557, 1, .iload 4, 0, 0, 0), (559, 0, .iconst 1, 0, 0, 0), (560, 0, .iadd, 0, 0, 0), 
  (561, 7, .iaload, 0, 0, 0), (562, 1, .aload_n 3, 0, 0, 0), (563, 12, .invokestatic 136, 309, 3, 0), (566, 22, .istore 5, 0, 0, 0), 
  (568, 1, .aload_n 2, 0, 0, 0), (569, 1, .aload_n 0, 0, 0, 0), (570, 1, .iload 4, 0, 0, 0), (572, 0, .iconst 1, 0, 0, 0), (573, 0, .iadd, 0, 0, 0), 
  (574, 7, .iaload, 0, 0, 0), (575, 12, .invokevirtual 138, 257, 2, 13), (578, 22, .istore 6, 0, 0, 0), (580, 1, .aload_n 2, 0, 0, 0), 
  (581, 12, .invokevirtual 114, 184, 1, 13), (584, 1, .iload 5, 0, 0, 0), (586, 3, .if_icmp .eq 5, 591, 0, 0), (589, 0, .iconst 0, 0, 0, 0), 
  (590, 13, .ireturn, 0, 0, 0), (591, 1, .iload 5, 0, 0, 0), (593, 3, .ifCond .ne 15, 608, 0, 0), (596, 1, .aload_n 3, 0, 0, 0), 
  (597, 0, .iconst 0, 0, 0, 0), (598, 7, .laload, 0, 0, 0), (599, 1, .iload 6, 0, 0, 0), (601, 0, .i2l, 0, 0, 0), (602, 0, .lcmp, 0, 0, 0), 
  (603, 3, .ifCond .eq 5, 608, 0, 0), (606, 0, .iconst 0, 0, 0, 0), (607, 13, .ireturn, 0, 0, 0), (608, 3, .goto 1623, 2231, 0, 0), 
  (611, 1, .aload_n 1, 0, 0, 0), (612, 1, .aload_n 0, 0, 0, 0), (613, 1, .iload 4, 0, 0, 0), (615, 0, .iconst 1, 0, 0, 0), (616, 0, .iadd, 0, 0, 0), 
  (617, 7, .iaload, 0, 0, 0), (618, 1, .aload_n 0, 0, 0, 0), (619, 1, .iload 4, 0, 0, 0), (621, 0, .iconst 2, 0, 0, 0), (622, 0, .iadd, 0, 0, 0), 
  (623, 7, .iaload, 0, 0, 0), (624, 1, .aload_n 3, 0, 0, 0), (625, 12, .invokestatic 139, 310, 4, 0), (628, 22, .istore 5, 0, 0, 0), 
  (630, 1, .aload_n 2, 0, 0, 0), (631, 1, .aload_n 0, 0, 0, 0), (632, 1, .iload 4, 0, 0, 0), (634, 0, .iconst 1, 0, 0, 0), (635, 0, .iadd, 0, 0, 0), 
  (636, 7, .iaload, 0, 0, 0), (637, 1, .aload_n 0, 0, 0, 0), (638, 1, .iload 4, 0, 0, 0), (640, 0, .iconst 2, 0, 0, 0), (641, 0, .iadd, 0, 0, 0), 
  (642, 7, .iaload, 0, 0, 0), (643, 12, .invokevirtual 141, 259, 3, 13), (646, 22, .istore 6, 0, 0, 0), (648, 1, .aload_n 2, 0, 0, 0), 
  (649, 12, .invokevirtual 114, 184, 1, 13), (652, 1, .iload 5, 0, 0, 0), (654, 3, .if_icmp .eq 5, 659, 0, 0), (657, 0, .iconst 0, 0, 0, 0), 
  (658, 13, .ireturn, 0, 0, 0), (659, 1, .iload 5, 0, 0, 0), (661, 3, .ifCond .ne 15, 676, 0, 0), (664, 1, .aload_n 3, 0, 0, 0), 
  (665, 0, .iconst 0, 0, 0, 0), (666, 7, .laload, 0, 0, 0), (667, 1, .iload 6, 0, 0, 0), (669, 0, .i2l, 0, 0, 0), (670, 0, .lcmp, 0, 0, 0), 
  (671, 3, .ifCond .eq 5, 676, 0, 0), (674, 0, .iconst 0, 0, 0, 0), (675, 13, .ireturn, 0, 0, 0), (676, 3, .goto 1555, 2231, 0, 0), 
  (679, 1, .aload_n 1, 0, 0, 0), (680, 1, .aload_n 0, 0, 0, 0), (681, 1, .iload 4, 0, 0, 0), (683, 0, .iconst 1, 0, 0, 0), (684, 0, .iadd, 0, 0, 0), 
  (685, 7, .iaload, 0, 0, 0), (686, 1, .aload_n 0, 0, 0, 0), (687, 1, .iload 4, 0, 0, 0), (689, 0, .iconst 2, 0, 0, 0), (690, 0, .iadd, 0, 0, 0), 
  (691, 7, .iaload, 0, 0, 0), (692, 3, .ifCond .eq 7, 699, 0, 0), (695, 0, .iconst 1, 0, 0, 0), (696, 3, .goto 4, 700, 0, 0)]
noncomputable def zk345_3 : List (Nat × zJ) := [
  (699, 0, .iconst 0, 0, 0, 0), (700, 1, .aload_n 3, 0, 0, 0), (701, 12, .invokestatic 142, 311, 4, 0), (704, 22, .istore 5, 0, 0, 0), 
  (706, 1, .aload_n 2, 0, 0, 0), (707, 1, .aload_n 0, 0, 0, 0), (708, 1, .iload 4, 0, 0, 0), (710, 0, .iconst 1, 0, 0, 0), (711, 0, .iadd, 0, 0, 0), 
  (712, 7, .iaload, 0, 0, 0), (713, 1, .aload_n 0, 0, 0, 0), (714, 1, .iload 4, 0, 0, 0), (716, 0, .iconst 2, 0, 0, 0), (717, 0, .iadd, 0, 0, 0), 
  (718, 7, .iaload, 0, 0, 0), (719, 3, .ifCond .eq 7, 726, 0, 0), (722, 0, .iconst 1, 0, 0, 0), (723, 3, .goto 4, 727, 0, 0), 
  (726, 0, .iconst 0, 0, 0, 0), (727, 12, .invokevirtual 145, 261, 3, 13), (730, 22, .istore 6, 0, 0, 0), (732, 1, .aload_n 2, 0, 0, 0), 
  (733, 12, .invokevirtual 114, 184, 1, 13), (736, 1, .iload 5, 0, 0, 0), (738, 3, .if_icmp .eq 5, 743, 0, 0), (741, 0, .iconst 0, 0, 0, 0), 
  (742, 13, .ireturn, 0, 0, 0), (743, 1, .iload 5, 0, 0, 0), (745, 3, .ifCond .ne 22, 767, 0, 0), (748, 1, .aload_n 3, 0, 0, 0), 
  (749, 0, .iconst 0, 0, 0, 0), (750, 7, .laload, 0, 0, 0), (751, 1, .iload 6, 0, 0, 0), (753, 3, .ifCond .eq 7, 760, 0, 0), 
  (756, 0, .lconst 1, 0, 0, 0), (757, 3, .goto 4, 761, 0, 0), (760, 0, .lconst 0, 0, 0, 0), (761, 0, .lcmp, 0, 0, 0), 
  (762, 3, .ifCond .eq 5, 767, 0, 0), (765, 0, .iconst 0, 0, 0, 0), (766, 13, .ireturn, 0, 0, 0), (767, 3, .goto 1464, 2231, 0, 0), 
  (770, 1, .aload_n 1, 0, 0, 0), (771, 1, .aload_n 0, 0, 0, 0), (772, 1, .iload 4, 0, 0, 0), (774, 0, .iconst 1, 0, 0, 0), (775, 0, .iadd, 0, 0, 0), 
  (776, 7, .iaload, 0, 0, 0), (777, 1, .aload_n 0, 0, 0, 0), (778, 1, .iload 4, 0, 0, 0), (780, 0, .iconst 2, 0, 0, 0), (781, 0, .iadd, 0, 0, 0), 
  (782, 7, .iaload, 0, 0, 0), (783, 1, .aload_n 3, 0, 0, 0), (784, 12, .invokestatic 146, 312, 4, 0), (787, 22, .istore 5, 0, 0, 0), 
  (789, 1, .aload_n 2, 0, 0, 0), (790, 1, .aload_n 0, 0, 0, 0), (791, 1, .iload 4, 0, 0, 0), (793, 0, .iconst 1, 0, 0, 0), (794, 0, .iadd, 0, 0, 0), 
  (795, 7, .iaload, 0, 0, 0), (796, 1, .aload_n 0, 0, 0, 0), (797, 1, .iload 4, 0, 0, 0), (799, 0, .iconst 2, 0, 0, 0), (800, 0, .iadd, 0, 0, 0), 
  (801, 7, .iaload, 0, 0, 0), (802, 12, .invokevirtual 148, 262, 3, 13), (805, 22, .istore 6, 0, 0, 0), (807, 1, .aload_n 2, 0, 0, 0), 
  (808, 12, .invokevirtual 114, 184, 1, 13), (811, 1, .iload 5, 0, 0, 0), (813, 3, .if_icmp .eq 5, 818, 0, 0), (816, 0, .iconst 0, 0, 0, 0), 
  (817, 13, .ireturn, 0, 0, 0), (818, 1, .iload 5, 0, 0, 0), (820, 3, .ifCond .ne 15, 835, 0, 0), (823, 1, .aload_n 3, 0, 0, 0), 
  (824, 0, .iconst 0, 0, 0, 0), (825, 7, .laload, 0, 0, 0), (826, 1, .iload 6, 0, 0, 0), (828, 0, .i2l, 0, 0, 0), (829, 0, .lcmp, 0, 0, 0), 
  (830, 3, .ifCond .eq 5, 835, 0, 0), (833, 0, .iconst 0, 0, 0, 0), (834, 13, .ireturn, 0, 0, 0), (835, 3, .goto 1396, 2231, 0, 0), 
  (838, 1, .aload_n 1, 0, 0, 0), (839, 12, .invokevirtual 149, 146, 1, 12), (842, 1, .aload_n 2, 0, 0, 0), (843, 12, .invokevirtual 152, 219, 1, 13), 
  (846, 3, .if_icmp .eq 1385, 2231, 0, 0), (849, 0, .iconst 0, 0, 0, 0), (850, 13, .ireturn, 0, 0, 0), (851, 1, .aload_n 1, 0, 0, 0), 
  (852, 1, .aload_n 0, 0, 0, 0), (853, 1, .iload 4, 0, 0, 0), (855, 0, .iconst 1, 0, 0, 0), (856, 0, .iadd, 0, 0, 0), (857, 7, .iaload, 0, 0, 0), 
  (858, 1, .aload_n 0, 0, 0, 0), (859, 1, .iload 4, 0, 0, 0), (861, 0, .iconst 2, 0, 0, 0), (862, 0, .iadd, 0, 0, 0), (863, 7, .iaload, 0, 0, 0), 
  (864, 1, .aload_n 0, 0, 0, 0), (865, 1, .iload 4, 0, 0, 0), (867, 0, .iconst 3, 0, 0, 0), (868, 0, .iadd, 0, 0, 0), (869, 7, .iaload, 0, 0, 0), 
  (870, 1, .aload_n 3, 0, 0, 0), (871, 12, .invokestatic 153, 313, 5, 0), (874, 22, .istore 5, 0, 0, 0), (876, 1, .aload_n 2, 0, 0, 0), 
  (877, 1, .aload_n 0, 0, 0, 0), (878, 1, .iload 4, 0, 0, 0), (880, 0, .iconst 1, 0, 0, 0), (881, 0, .iadd, 0, 0, 0), (882, 7, .iaload, 0, 0, 0), 
  (883, 1, .aload_n 0, 0, 0, 0)]
noncomputable def zk345_4 : List (Nat × zJ) := [
  (884, 1, .iload 4, 0, 0, 0), (886, 0, .iconst 2, 0, 0, 0), (887, 0, .iadd, 0, 0, 0), (888, 7, .iaload, 0, 0, 0), (889, 1, .aload_n 0, 0, 0, 0), 
  (890, 1, .iload 4, 0, 0, 0), (892, 0, .iconst 3, 0, 0, 0), (893, 0, .iadd, 0, 0, 0), (894, 7, .iaload, 0, 0, 0), 
  (895, 12, .invokevirtual 156, 263, 4, 13), (898, 22, .istore 6, 0, 0, 0), (900, 1, .aload_n 2, 0, 0, 0), (901, 12, .invokevirtual 114, 184, 1, 13), 
  (904, 1, .iload 5, 0, 0, 0), (906, 3, .if_icmp .eq 5, 911, 0, 0), (909, 0, .iconst 0, 0, 0, 0), (910, 13, .ireturn, 0, 0, 0), 
  (911, 1, .iload 5, 0, 0, 0), (913, 3, .ifCond .ne 15, 928, 0, 0), (916, 1, .aload_n 3, 0, 0, 0), (917, 0, .iconst 0, 0, 0, 0), 
  (918, 7, .laload, 0, 0, 0), (919, 1, .iload 6, 0, 0, 0), (921, 0, .i2l, 0, 0, 0), (922, 0, .lcmp, 0, 0, 0), (923, 3, .ifCond .eq 5, 928, 0, 0), 
  (926, 0, .iconst 0, 0, 0, 0), (927, 13, .ireturn, 0, 0, 0), (928, 3, .goto 1303, 2231, 0, 0), (931, 1, .aload_n 1, 0, 0, 0), 
  (932, 1, .aload_n 0, 0, 0, 0), (933, 1, .iload 4, 0, 0, 0), (935, 0, .iconst 1, 0, 0, 0), (936, 0, .iadd, 0, 0, 0), (937, 7, .iaload, 0, 0, 0), 
  (938, 1, .aload_n 0, 0, 0, 0), (939, 1, .iload 4, 0, 0, 0), (941, 0, .iconst 2, 0, 0, 0), (942, 0, .iadd, 0, 0, 0), (943, 7, .iaload, 0, 0, 0), 
  (944, 1, .aload_n 0, 0, 0, 0), (945, 1, .iload 4, 0, 0, 0), (947, 0, .iconst 3, 0, 0, 0), (948, 0, .iadd, 0, 0, 0), (949, 7, .iaload, 0, 0, 0), 
  (950, 1, .aload_n 3, 0, 0, 0), (951, 12, .invokestatic 157, 314, 5, 0), (954, 22, .istore 5, 0, 0, 0), (956, 1, .aload_n 2, 0, 0, 0), 
  (957, 1, .aload_n 0, 0, 0, 0), (958, 1, .iload 4, 0, 0, 0), (960, 0, .iconst 1, 0, 0, 0), (961, 0, .iadd, 0, 0, 0), (962, 7, .iaload, 0, 0, 0), 
  (963, 1, .aload_n 0, 0, 0, 0), (964, 1, .iload 4, 0, 0, 0), (966, 0, .iconst 2, 0, 0, 0), (967, 0, .iadd, 0, 0, 0), (968, 7, .iaload, 0, 0, 0), 
  (969, 1, .aload_n 0, 0, 0, 0), (970, 1, .iload 4, 0, 0, 0), (972, 0, .iconst 3, 0, 0, 0), (973, 0, .iadd, 0, 0, 0), (974, 7, .iaload, 0, 0, 0), 
  (975, 12, .invokevirtual 159, 268, 4, 13), (978, 22, .istore 6, 0, 0, 0), (980, 1, .aload_n 2, 0, 0, 0), (981, 12, .invokevirtual 114, 184, 1, 13), 
  (984, 1, .iload 5, 0, 0, 0), (986, 3, .if_icmp .eq 5, 991, 0, 0), (989, 0, .iconst 0, 0, 0, 0), (990, 13, .ireturn, 0, 0, 0), 
  (991, 1, .iload 5, 0, 0, 0), (993, 3, .ifCond .ne 15, 1008, 0, 0), (996, 1, .aload_n 3, 0, 0, 0), (997, 0, .iconst 0, 0, 0, 0), 
  (998, 7, .laload, 0, 0, 0), (999, 1, .iload 6, 0, 0, 0), (1001, 0, .i2l, 0, 0, 0), (1002, 0, .lcmp, 0, 0, 0), (1003, 3, .ifCond .eq 5, 1008, 0, 0), 
  (1006, 0, .iconst 0, 0, 0, 0), (1007, 13, .ireturn, 0, 0, 0), (1008, 3, .goto 1223, 2231, 0, 0), (1011, 1, .aload_n 1, 0, 0, 0), 
  (1012, 1, .aload_n 0, 0, 0, 0), (1013, 1, .iload 4, 0, 0, 0), (1015, 0, .iconst 1, 0, 0, 0), (1016, 0, .iadd, 0, 0, 0), (1017, 7, .iaload, 0, 0, 0), 
  (1018, 1, .aload_n 3, 0, 0, 0), (1019, 12, .invokestatic 160, 315, 3, 0), (1022, 22, .istore 5, 0, 0, 0), (1024, 1, .aload_n 2, 0, 0, 0), 
  (1025, 1, .aload_n 0, 0, 0, 0), (1026, 1, .iload 4, 0, 0, 0), (1028, 0, .iconst 1, 0, 0, 0), (1029, 0, .iadd, 0, 0, 0), (1030, 7, .iaload, 0, 0, 0), 
  (1031, 12, .invokevirtual 162, 269, 2, 13), (1034, 22, .istore 6, 0, 0, 0), (1036, 1, .aload_n 2, 0, 0, 0), 
  (1037, 12, .invokevirtual 114, 184, 1, 13), (1040, 1, .iload 5, 0, 0, 0), (1042, 3, .if_icmp .eq 5, 1047, 0, 0), (1045, 0, .iconst 0, 0, 0, 0), 
  (1046, 13, .ireturn, 0, 0, 0), (1047, 1, .iload 5, 0, 0, 0), (1049, 3, .ifCond .ne 15, 1064, 0, 0), (1052, 1, .aload_n 3, 0, 0, 0), 
  (1053, 0, .iconst 0, 0, 0, 0), (1054, 7, .laload, 0, 0, 0), (1055, 1, .iload 6, 0, 0, 0), (1057, 0, .i2l, 0, 0, 0), (1058, 0, .lcmp, 0, 0, 0), 
  (1059, 3, .ifCond .eq 5, 1064, 0, 0), (1062, 0, .iconst 0, 0, 0, 0), (1063, 13, .ireturn, 0, 0, 0), (1064, 3, .goto 1167, 2231, 0, 0), 
  (1067, 1, .aload_n 1, 0, 0, 0)]
noncomputable def zk345_5 : List (Nat × zJ) := [
  (1068, 12, .invokevirtual 163, 147, 1, 12), (1071, 1, .aload_n 2, 0, 0, 0), (1072, 12, .invokevirtual 166, 270, 1, 13), 
  (1075, 3, .if_icmp .eq 1156, 2231, 0, 0), (1078, 0, .iconst 0, 0, 0, 0), (1079, 13, .ireturn, 0, 0, 0), (1080, 1, .aload_n 1, 0, 0, 0), 
  (1081, 1, .aload_n 0, 0, 0, 0), (1082, 1, .iload 4, 0, 0, 0), (1084, 0, .iconst 1, 0, 0, 0), (1085, 0, .iadd, 0, 0, 0), (1086, 7, .iaload, 0, 0, 0), 
  (1087, 1, .aload_n 0, 0, 0, 0), (1088, 1, .iload 4, 0, 0, 0), (1090, 0, .iconst 2, 0, 0, 0), (1091, 0, .iadd, 0, 0, 0), (1092, 7, .iaload, 0, 0, 0), 
  (1093, 1, .aload_n 3, 0, 0, 0), (1094, 12, .invokestatic 167, 316, 4, 0), (1097, 22, .istore 5, 0, 0, 0), (1099, 1, .aload_n 2, 0, 0, 0), 
  (1100, 1, .aload_n 0, 0, 0, 0), (1101, 1, .iload 4, 0, 0, 0), (1103, 0, .iconst 1, 0, 0, 0), (1104, 0, .iadd, 0, 0, 0), (1105, 7, .iaload, 0, 0, 0), 
  (1106, 1, .aload_n 0, 0, 0, 0), (1107, 1, .iload 4, 0, 0, 0), (1109, 0, .iconst 2, 0, 0, 0), (1110, 0, .iadd, 0, 0, 0), (1111, 7, .iaload, 0, 0, 0), 
  (1112, 12, .invokevirtual 169, 272, 3, 13), (1115, 22, .istore 6, 0, 0, 0), (1117, 1, .aload_n 2, 0, 0, 0), 
  (1118, 12, .invokevirtual 114, 184, 1, 13), (1121, 1, .iload 5, 0, 0, 0), (1123, 3, .if_icmp .eq 5, 1128, 0, 0), (1126, 0, .iconst 0, 0, 0, 0), 
  (1127, 13, .ireturn, 0, 0, 0), (1128, 1, .iload 5, 0, 0, 0), (1130, 3, .ifCond .ne 15, 1145, 0, 0), (1133, 1, .aload_n 3, 0, 0, 0), 
  (1134, 0, .iconst 0, 0, 0, 0), (1135, 7, .laload, 0, 0, 0), (1136, 1, .iload 6, 0, 0, 0), (1138, 0, .i2l, 0, 0, 0), (1139, 0, .lcmp, 0, 0, 0), 
  (1140, 3, .ifCond .eq 5, 1145, 0, 0), (1143, 0, .iconst 0, 0, 0, 0), (1144, 13, .ireturn, 0, 0, 0), (1145, 3, .goto 1086, 2231, 0, 0), 
  (1148, 1, .aload_n 1, 0, 0, 0), (1149, 1, .aload_n 0, 0, 0, 0), (1150, 1, .iload 4, 0, 0, 0), (1152, 0, .iconst 1, 0, 0, 0), 
  (1153, 0, .iadd, 0, 0, 0), (1154, 7, .iaload, 0, 0, 0), (1155, 1, .aload_n 0, 0, 0, 0), (1156, 1, .iload 4, 0, 0, 0), (1158, 0, .iconst 2, 0, 0, 0), 
  (1159, 0, .iadd, 0, 0, 0), (1160, 7, .iaload, 0, 0, 0), (1161, 1, .aload_n 3, 0, 0, 0), (1162, 12, .invokestatic 170, 317, 4, 0), 
  (1165, 22, .istore 5, 0, 0, 0), (1167, 1, .aload_n 2, 0, 0, 0), (1168, 1, .aload_n 0, 0, 0, 0), (1169, 1, .iload 4, 0, 0, 0), 
  (1171, 0, .iconst 1, 0, 0, 0), (1172, 0, .iadd, 0, 0, 0), (1173, 7, .iaload, 0, 0, 0), (1174, 1, .aload_n 0, 0, 0, 0), (1175, 1, .iload 4, 0, 0, 0), 
  (1177, 0, .iconst 2, 0, 0, 0), (1178, 0, .iadd, 0, 0, 0), (1179, 7, .iaload, 0, 0, 0), (1180, 12, .invokevirtual 172, 276, 3, 13), 
  (1183, 22, .istore 6, 0, 0, 0), (1185, 1, .aload_n 2, 0, 0, 0), (1186, 12, .invokevirtual 114, 184, 1, 13), (1189, 1, .iload 5, 0, 0, 0), 
  (1191, 3, .if_icmp .eq 5, 1196, 0, 0), (1194, 0, .iconst 0, 0, 0, 0), (1195, 13, .ireturn, 0, 0, 0), (1196, 1, .iload 5, 0, 0, 0), 
  (1198, 3, .ifCond .ne 15, 1213, 0, 0), (1201, 1, .aload_n 3, 0, 0, 0), (1202, 0, .iconst 0, 0, 0, 0), (1203, 7, .laload, 0, 0, 0), 
  (1204, 1, .iload 6, 0, 0, 0), (1206, 0, .i2l, 0, 0, 0), (1207, 0, .lcmp, 0, 0, 0), (1208, 3, .ifCond .eq 5, 1213, 0, 0), 
  (1211, 0, .iconst 0, 0, 0, 0), (1212, 13, .ireturn, 0, 0, 0), (1213, 3, .goto 1018, 2231, 0, 0), (1216, 1, .aload_n 1, 0, 0, 0), 
  (1217, 1, .aload_n 0, 0, 0, 0), (1218, 1, .iload 4, 0, 0, 0), (1220, 0, .iconst 1, 0, 0, 0), (1221, 0, .iadd, 0, 0, 0), (1222, 7, .iaload, 0, 0, 0), 
  (1223, 1, .aload_n 0, 0, 0, 0), (1224, 1, .iload 4, 0, 0, 0), (1226, 0, .iconst 2, 0, 0, 0), (1227, 0, .iadd, 0, 0, 0), (1228, 7, .iaload, 0, 0, 0), 
  (1229, 1, .aload_n 3, 0, 0, 0), (1230, 12, .invokestatic 173, 318, 4, 0), (1233, 22, .istore 5, 0, 0, 0), (1235, 1, .aload_n 2, 0, 0, 0), 
  (1236, 1, .aload_n 0, 0, 0, 0), (1237, 1, .iload 4, 0, 0, 0), (1239, 0, .iconst 1, 0, 0, 0), (1240, 0, .iadd, 0, 0, 0), (1241, 7, .iaload, 0, 0, 0), 
  (1242, 1, .aload_n 0, 0, 0, 0), (1243, 1, .iload 4, 0, 0, 0), (1245, 0, .iconst 2, 0, 0, 0), (1246, 0, .iadd, 0, 0, 0)]
noncomputable def zk345_6 : List (Nat × zJ) := [
  (1247, 7, .iaload, 0, 0, 0), (1248, 12, .invokevirtual 175, 277, 3, 13), (1251, 22, .istore 6, 0, 0, 0), (1253, 1, .aload_n 2, 0, 0, 0), 
  (1254, 12, .invokevirtual 114, 184, 1, 13), (1257, 1, .iload 5, 0, 0, 0), (1259, 3, .if_icmp .eq 5, 1264, 0, 0), (1262, 0, .iconst 0, 0, 0, 0), 
  (1263, 13, .ireturn, 0, 0, 0), (1264, 1, .iload 5, 0, 0, 0), (1266, 3, .ifCond .ne 15, 1281, 0, 0), (1269, 1, .aload_n 3, 0, 0, 0), 
  (1270, 0, .iconst 0, 0, 0, 0), (1271, 7, .laload, 0, 0, 0), (1272, 1, .iload 6, 0, 0, 0), (1274, 0, .i2l, 0, 0, 0), (1275, 0, .lcmp, 0, 0, 0), 
  (1276, 3, .ifCond .eq 5, 1281, 0, 0), (1279, 0, .iconst 0, 0, 0, 0), (1280, 13, .ireturn, 0, 0, 0), (1281, 3, .goto 950, 2231, 0, 0), 
  (1284, 1, .aload_n 1, 0, 0, 0), (1285, 1, .aload_n 0, 0, 0, 0), (1286, 1, .iload 4, 0, 0, 0), (1288, 0, .iconst 1, 0, 0, 0), 
  (1289, 0, .iadd, 0, 0, 0), (1290, 7, .iaload, 0, 0, 0), (1291, 1, .aload_n 0, 0, 0, 0), (1292, 1, .iload 4, 0, 0, 0), (1294, 0, .iconst 2, 0, 0, 0), 
  (1295, 0, .iadd, 0, 0, 0), (1296, 7, .iaload, 0, 0, 0), (1297, 1, .aload_n 0, 0, 0, 0), (1298, 1, .iload 4, 0, 0, 0), (1300, 0, .iconst 3, 0, 0, 0), 
  (1301, 0, .iadd, 0, 0, 0), (1302, 7, .iaload, 0, 0, 0), (1303, 1, .aload_n 3, 0, 0, 0), (1304, 12, .invokestatic 176, 319, 5, 0), 
  (1307, 22, .istore 5, 0, 0, 0), (1309, 1, .aload_n 2, 0, 0, 0), (1310, 1, .aload_n 0, 0, 0, 0), (1311, 1, .iload 4, 0, 0, 0), 
  (1313, 0, .iconst 1, 0, 0, 0), (1314, 0, .iadd, 0, 0, 0), (1315, 7, .iaload, 0, 0, 0), (1316, 1, .aload_n 0, 0, 0, 0), (1317, 1, .iload 4, 0, 0, 0), 
  (1319, 0, .iconst 2, 0, 0, 0), (1320, 0, .iadd, 0, 0, 0), (1321, 7, .iaload, 0, 0, 0), (1322, 1, .aload_n 0, 0, 0, 0), (1323, 1, .iload 4, 0, 0, 0), 
  (1325, 0, .iconst 3, 0, 0, 0), (1326, 0, .iadd, 0, 0, 0), (1327, 7, .iaload, 0, 0, 0), (1328, 12, .invokevirtual 178, 280, 4, 13), 
  (1331, 22, .istore 6, 0, 0, 0), (1333, 1, .aload_n 2, 0, 0, 0), (1334, 12, .invokevirtual 114, 184, 1, 13), (1337, 1, .iload 5, 0, 0, 0), 
  (1339, 3, .if_icmp .eq 5, 1344, 0, 0), (1342, 0, .iconst 0, 0, 0, 0), (1343, 13, .ireturn, 0, 0, 0), (1344, 1, .iload 5, 0, 0, 0), 
  (1346, 3, .ifCond .ne 15, 1361, 0, 0), (1349, 1, .aload_n 3, 0, 0, 0), (1350, 0, .iconst 0, 0, 0, 0), (1351, 7, .laload, 0, 0, 0), 
  (1352, 1, .iload 6, 0, 0, 0), (1354, 0, .i2l, 0, 0, 0), (1355, 0, .lcmp, 0, 0, 0), (1356, 3, .ifCond .eq 5, 1361, 0, 0), 
  (1359, 0, .iconst 0, 0, 0, 0), (1360, 13, .ireturn, 0, 0, 0), (1361, 3, .goto 870, 2231, 0, 0), (1364, 1, .aload_n 1, 0, 0, 0), 
  (1365, 1, .aload_n 0, 0, 0, 0), (1366, 1, .iload 4, 0, 0, 0), (1368, 0, .iconst 1, 0, 0, 0), (1369, 0, .iadd, 0, 0, 0), (1370, 7, .iaload, 0, 0, 0), 
  (1371, 1, .aload_n 3, 0, 0, 0), (1372, 12, .invokestatic 179, 320, 3, 0), (1375, 22, .istore 5, 0, 0, 0), (1377, 1, .aload_n 2, 0, 0, 0), 
  (1378, 1, .aload_n 0, 0, 0, 0), (1379, 1, .iload 4, 0, 0, 0), (1381, 0, .iconst 1, 0, 0, 0), (1382, 0, .iadd, 0, 0, 0), (1383, 7, .iaload, 0, 0, 0), 
  (1384, 12, .invokevirtual 181, 284, 2, 13), (1387, 22, .istore 6, 0, 0, 0), (1389, 1, .aload_n 2, 0, 0, 0), 
  (1390, 12, .invokevirtual 114, 184, 1, 13), (1393, 1, .iload 5, 0, 0, 0), (1395, 3, .if_icmp .eq 5, 1400, 0, 0), (1398, 0, .iconst 0, 0, 0, 0), 
  (1399, 13, .ireturn, 0, 0, 0), (1400, 1, .iload 5, 0, 0, 0), (1402, 3, .ifCond .ne 15, 1417, 0, 0), (1405, 1, .aload_n 3, 0, 0, 0), 
  (1406, 0, .iconst 0, 0, 0, 0), (1407, 7, .laload, 0, 0, 0), (1408, 1, .iload 6, 0, 0, 0), (1410, 0, .i2l, 0, 0, 0), (1411, 0, .lcmp, 0, 0, 0), 
  (1412, 3, .ifCond .eq 5, 1417, 0, 0), (1415, 0, .iconst 0, 0, 0, 0), (1416, 13, .ireturn, 0, 0, 0), (1417, 3, .goto 814, 2231, 0, 0), 
  (1420, 1, .aload_n 1, 0, 0, 0), (1421, 1, .aload_n 0, 0, 0, 0), (1422, 1, .iload 4, 0, 0, 0), (1424, 0, .iconst 1, 0, 0, 0), 
  (1425, 0, .iadd, 0, 0, 0), (1426, 7, .iaload, 0, 0, 0), (1427, 1, .aload_n 3, 0, 0, 0), (1428, 12, .invokestatic 182, 321, 3, 0), 
  (1431, 22, .istore 5, 0, 0, 0)]
noncomputable def zk345_7 : List (Nat × zJ) := [
  (1433, 1, .aload_n 2, 0, 0, 0), (1434, 1, .aload_n 0, 0, 0, 0), (1435, 1, .iload 4, 0, 0, 0), (1437, 0, .iconst 1, 0, 0, 0), 
  (1438, 0, .iadd, 0, 0, 0), (1439, 7, .iaload, 0, 0, 0), (1440, 12, .invokevirtual 184, 289, 2, 13), (1443, 22, .istore 6, 0, 0, 0), 
  (1445, 1, .aload_n 2, 0, 0, 0), (1446, 12, .invokevirtual 114, 184, 1, 13), (1449, 1, .iload 5, 0, 0, 0), (1451, 3, .if_icmp .eq 5, 1456, 0, 0), 
  (1454, 0, .iconst 0, 0, 0, 0), (1455, 13, .ireturn, 0, 0, 0), (1456, 1, .iload 5, 0, 0, 0), (1458, 3, .ifCond .ne 15, 1473, 0, 0), 
  (1461, 1, .aload_n 3, 0, 0, 0), (1462, 0, .iconst 0, 0, 0, 0), (1463, 7, .laload, 0, 0, 0), (1464, 1, .iload 6, 0, 0, 0), (1466, 0, .i2l, 0, 0, 0), 
  (1467, 0, .lcmp, 0, 0, 0), (1468, 3, .ifCond .eq 5, 1473, 0, 0), (1471, 0, .iconst 0, 0, 0, 0), (1472, 13, .ireturn, 0, 0, 0), 
  (1473, 3, .goto 758, 2231, 0, 0), (1476, 1, .aload_n 1, 0, 0, 0), (1477, 1, .aload_n 0, 0, 0, 0), (1478, 1, .iload 4, 0, 0, 0), 
  (1480, 0, .iconst 1, 0, 0, 0), (1481, 0, .iadd, 0, 0, 0), (1482, 7, .iaload, 0, 0, 0), (1483, 1, .aload_n 0, 0, 0, 0), (1484, 1, .iload 4, 0, 0, 0), 
  (1486, 0, .iconst 2, 0, 0, 0), (1487, 0, .iadd, 0, 0, 0), (1488, 7, .iaload, 0, 0, 0), (1489, 1, .aload_n 0, 0, 0, 0), (1490, 1, .iload 4, 0, 0, 0), 
  (1492, 0, .iconst 3, 0, 0, 0), (1493, 0, .iadd, 0, 0, 0), (1494, 7, .iaload, 0, 0, 0), (1495, 3, .ifCond .eq 7, 1502, 0, 0), 
  (1498, 0, .iconst 1, 0, 0, 0), (1499, 3, .goto 4, 1503, 0, 0), (1502, 0, .iconst 0, 0, 0, 0), (1503, 1, .aload_n 3, 0, 0, 0), 
  (1504, 12, .invokestatic 185, 322, 5, 0), (1507, 22, .istore 5, 0, 0, 0), (1509, 1, .aload_n 2, 0, 0, 0), (1510, 1, .aload_n 0, 0, 0, 0), 
  (1511, 1, .iload 4, 0, 0, 0), (1513, 0, .iconst 1, 0, 0, 0), (1514, 0, .iadd, 0, 0, 0), (1515, 7, .iaload, 0, 0, 0), (1516, 1, .aload_n 0, 0, 0, 0), 
  (1517, 1, .iload 4, 0, 0, 0), (1519, 0, .iconst 2, 0, 0, 0), (1520, 0, .iadd, 0, 0, 0), (1521, 7, .iaload, 0, 0, 0), (1522, 1, .aload_n 0, 0, 0, 0), 
  (1523, 1, .iload 4, 0, 0, 0), (1525, 0, .iconst 3, 0, 0, 0), (1526, 0, .iadd, 0, 0, 0), (1527, 7, .iaload, 0, 0, 0), 
  (1528, 3, .ifCond .eq 7, 1535, 0, 0), (1531, 0, .iconst 1, 0, 0, 0), (1532, 3, .goto 4, 1536, 0, 0), (1535, 0, .iconst 0, 0, 0, 0), 
  (1536, 12, .invokevirtual 188, 290, 4, 13), (1539, 22, .istore 6, 0, 0, 0), (1541, 1, .aload_n 2, 0, 0, 0), 
  (1542, 12, .invokevirtual 114, 184, 1, 13), (1545, 1, .iload 5, 0, 0, 0), (1547, 3, .if_icmp .eq 5, 1552, 0, 0), (1550, 0, .iconst 0, 0, 0, 0), 
  (1551, 13, .ireturn, 0, 0, 0), (1552, 1, .iload 5, 0, 0, 0), (1554, 3, .ifCond .ne 15, 1569, 0, 0), (1557, 1, .aload_n 3, 0, 0, 0), 
  (1558, 0, .iconst 0, 0, 0, 0), (1559, 7, .laload, 0, 0, 0), (1560, 1, .iload 6, 0, 0, 0), (1562, 0, .i2l, 0, 0, 0), (1563, 0, .lcmp, 0, 0, 0), 
  (1564, 3, .ifCond .eq 5, 1569, 0, 0), (1567, 0, .iconst 0, 0, 0, 0), (1568, 13, .ireturn, 0, 0, 0), (1569, 3, .goto 662, 2231, 0, 0), 
  (1572, 1, .aload_n 1, 0, 0, 0), (1573, 12, .invokevirtual 189, 148, 1, 12), (1576, 1, .aload_n 2, 0, 0, 0), 
  (1577, 12, .invokevirtual 192, 291, 1, 13), (1580, 3, .goto 651, 2231, 0, 0), (1583, 1, .aload_n 1, 0, 0, 0), (1584, 1, .aload_n 0, 0, 0, 0), 
  (1585, 1, .iload 4, 0, 0, 0), (1587, 0, .iconst 1, 0, 0, 0), (1588, 0, .iadd, 0, 0, 0), (1589, 7, .iaload, 0, 0, 0), (1590, 1, .aload_n 3, 0, 0, 0), 
  (1591, 12, .invokestatic 193, 323, 3, 0), (1594, 22, .istore 5, 0, 0, 0), (1596, 1, .aload_n 2, 0, 0, 0), (1597, 1, .aload_n 0, 0, 0, 0), 
  (1598, 1, .iload 4, 0, 0, 0), (1600, 0, .iconst 1, 0, 0, 0), (1601, 0, .iadd, 0, 0, 0), (1602, 7, .iaload, 0, 0, 0), 
  (1603, 12, .invokevirtual 195, 292, 2, 13), (1606, 22, .istore 6, 0, 0, 0), (1608, 1, .aload_n 2, 0, 0, 0), 
  (1609, 12, .invokevirtual 114, 184, 1, 13), (1612, 1, .iload 5, 0, 0, 0), (1614, 3, .if_icmp .eq 5, 1619, 0, 0), (1617, 0, .iconst 0, 0, 0, 0), 
  (1618, 13, .ireturn, 0, 0, 0), (1619, 1, .iload 5, 0, 0, 0), (1621, 3, .ifCond .ne 15, 1636, 0, 0), (1624, 1, .aload_n 3, 0, 0, 0)]
noncomputable def zk345_8 : List (Nat × zJ) := [
  (1625, 0, .iconst 0, 0, 0, 0), (1626, 7, .laload, 0, 0, 0), (1627, 1, .iload 6, 0, 0, 0), (1629, 0, .i2l, 0, 0, 0), (1630, 0, .lcmp, 0, 0, 0), 
  (1631, 3, .ifCond .eq 5, 1636, 0, 0), (1634, 0, .iconst 0, 0, 0, 0), (1635, 13, .ireturn, 0, 0, 0), (1636, 3, .goto 595, 2231, 0, 0), 
  (1639, 1, .aload_n 1, 0, 0, 0), (1640, 1, .aload_n 0, 0, 0, 0), (1641, 1, .iload 4, 0, 0, 0), (1643, 0, .iconst 1, 0, 0, 0), 
  (1644, 0, .iadd, 0, 0, 0), (1645, 7, .iaload, 0, 0, 0), (1646, 1, .aload_n 3, 0, 0, 0), (1647, 12, .invokestatic 196, 324, 3, 0), 
  (1650, 22, .istore 5, 0, 0, 0), (1652, 1, .aload_n 2, 0, 0, 0), (1653, 1, .aload_n 0, 0, 0, 0), (1654, 1, .iload 4, 0, 0, 0), 
  (1656, 0, .iconst 1, 0, 0, 0), (1657, 0, .iadd, 0, 0, 0), (1658, 7, .iaload, 0, 0, 0), (1659, 12, .invokevirtual 198, 295, 2, 13), 
  (1662, 22, .istore 6, 0, 0, 0), (1664, 1, .aload_n 2, 0, 0, 0), (1665, 12, .invokevirtual 114, 184, 1, 13), (1668, 1, .iload 5, 0, 0, 0), 
  (1670, 3, .if_icmp .eq 5, 1675, 0, 0), (1673, 0, .iconst 0, 0, 0, 0), (1674, 13, .ireturn, 0, 0, 0), (1675, 1, .iload 5, 0, 0, 0), 
  (1677, 3, .ifCond .ne 15, 1692, 0, 0), (1680, 1, .aload_n 3, 0, 0, 0), (1681, 0, .iconst 0, 0, 0, 0), (1682, 7, .laload, 0, 0, 0), 
  (1683, 1, .iload 6, 0, 0, 0), (1685, 0, .i2l, 0, 0, 0), (1686, 0, .lcmp, 0, 0, 0), (1687, 3, .ifCond .eq 5, 1692, 0, 0), 
  (1690, 0, .iconst 0, 0, 0, 0), (1691, 13, .ireturn, 0, 0, 0), (1692, 3, .goto 539, 2231, 0, 0), (1695, 1, .aload_n 1, 0, 0, 0), 
  (1696, 1, .aload_n 0, 0, 0, 0), (1697, 1, .iload 4, 0, 0, 0), (1699, 0, .iconst 1, 0, 0, 0), (1700, 0, .iadd, 0, 0, 0), (1701, 7, .iaload, 0, 0, 0), 
  (1702, 1, .aload_n 0, 0, 0, 0), (1703, 1, .iload 4, 0, 0, 0), (1705, 0, .iconst 2, 0, 0, 0), (1706, 0, .iadd, 0, 0, 0), (1707, 7, .iaload, 0, 0, 0), 
  (1708, 1, .aload_n 0, 0, 0, 0), (1709, 1, .iload 4, 0, 0, 0), (1711, 0, .iconst 3, 0, 0, 0), (1712, 0, .iadd, 0, 0, 0), (1713, 7, .iaload, 0, 0, 0), 
  (1714, 1, .aload_n 3, 0, 0, 0), (1715, 12, .invokestatic 199, 325, 5, 0), (1718, 22, .istore 5, 0, 0, 0), (1720, 1, .aload_n 2, 0, 0, 0), 
  (1721, 1, .aload_n 0, 0, 0, 0), (1722, 1, .iload 4, 0, 0, 0), (1724, 0, .iconst 1, 0, 0, 0), (1725, 0, .iadd, 0, 0, 0), (1726, 7, .iaload, 0, 0, 0), 
  (1727, 1, .aload_n 0, 0, 0, 0), (1728, 1, .iload 4, 0, 0, 0), (1730, 0, .iconst 2, 0, 0, 0), (1731, 0, .iadd, 0, 0, 0), (1732, 7, .iaload, 0, 0, 0), 
  (1733, 1, .aload_n 0, 0, 0, 0), (1734, 1, .iload 4, 0, 0, 0), (1736, 0, .iconst 3, 0, 0, 0), (1737, 0, .iadd, 0, 0, 0), (1738, 7, .iaload, 0, 0, 0), 
  (1739, 12, .invokevirtual 201, 296, 4, 13), (1742, 22, .istore 6, 0, 0, 0), (1744, 1, .aload_n 2, 0, 0, 0), 
  (1745, 12, .invokevirtual 114, 184, 1, 13), (1748, 1, .iload 5, 0, 0, 0), (1750, 3, .if_icmp .eq 5, 1755, 0, 0), (1753, 0, .iconst 0, 0, 0, 0), 
  (1754, 13, .ireturn, 0, 0, 0), (1755, 1, .iload 5, 0, 0, 0), (1757, 3, .ifCond .ne 15, 1772, 0, 0), (1760, 1, .aload_n 3, 0, 0, 0), 
  (1761, 0, .iconst 0, 0, 0, 0), (1762, 7, .laload, 0, 0, 0), (1763, 1, .iload 6, 0, 0, 0), (1765, 0, .i2l, 0, 0, 0), (1766, 0, .lcmp, 0, 0, 0), 
  (1767, 3, .ifCond .eq 5, 1772, 0, 0), (1770, 0, .iconst 0, 0, 0, 0), (1771, 13, .ireturn, 0, 0, 0), (1772, 3, .goto 459, 2231, 0, 0), 
  (1775, 1, .aload_n 1, 0, 0, 0), (1776, 1, .aload_n 0, 0, 0, 0), (1777, 1, .iload 4, 0, 0, 0), (1779, 0, .iconst 1, 0, 0, 0), 
  (1780, 0, .iadd, 0, 0, 0), (1781, 7, .iaload, 0, 0, 0), (1782, 1, .aload_n 0, 0, 0, 0), (1783, 1, .iload 4, 0, 0, 0), (1785, 0, .iconst 2, 0, 0, 0), 
  (1786, 0, .iadd, 0, 0, 0), (1787, 7, .iaload, 0, 0, 0), (1788, 1, .aload_n 0, 0, 0, 0), (1789, 1, .iload 4, 0, 0, 0), (1791, 0, .iconst 3, 0, 0, 0), 
  (1792, 0, .iadd, 0, 0, 0), (1793, 7, .iaload, 0, 0, 0), (1794, 1, .aload_n 3, 0, 0, 0), (1795, 12, .invokestatic 202, 326, 5, 0), 
  (1798, 22, .istore 5, 0, 0, 0), (1800, 1, .aload_n 2, 0, 0, 0), (1801, 1, .aload_n 0, 0, 0, 0)]
noncomputable def zk345_9 : List (Nat × zJ) := [
  (1802, 1, .iload 4, 0, 0, 0), (1804, 0, .iconst 1, 0, 0, 0), (1805, 0, .iadd, 0, 0, 0), (1806, 7, .iaload, 0, 0, 0), (1807, 1, .aload_n 0, 0, 0, 0), 
  (1808, 1, .iload 4, 0, 0, 0), (1810, 0, .iconst 2, 0, 0, 0), (1811, 0, .iadd, 0, 0, 0), (1812, 7, .iaload, 0, 0, 0), (1813, 1, .aload_n 0, 0, 0, 0), 
  (1814, 1, .iload 4, 0, 0, 0), (1816, 0, .iconst 3, 0, 0, 0), (1817, 0, .iadd, 0, 0, 0), (1818, 7, .iaload, 0, 0, 0), 
  (1819, 12, .invokevirtual 204, 298, 4, 13), (1822, 22, .istore 6, 0, 0, 0), (1824, 1, .aload_n 2, 0, 0, 0), 
  (1825, 12, .invokevirtual 114, 184, 1, 13), (1828, 1, .iload 5, 0, 0, 0), (1830, 3, .if_icmp .eq 5, 1835, 0, 0), (1833, 0, .iconst 0, 0, 0, 0), 
  (1834, 13, .ireturn, 0, 0, 0), (1835, 1, .iload 5, 0, 0, 0), (1837, 3, .ifCond .ne 15, 1852, 0, 0), (1840, 1, .aload_n 3, 0, 0, 0), 
  (1841, 0, .iconst 0, 0, 0, 0), (1842, 7, .laload, 0, 0, 0), (1843, 1, .iload 6, 0, 0, 0), (1845, 0, .i2l, 0, 0, 0), (1846, 0, .lcmp, 0, 0, 0), 
  (1847, 3, .ifCond .eq 5, 1852, 0, 0), (1850, 0, .iconst 0, 0, 0, 0), (1851, 13, .ireturn, 0, 0, 0), (1852, 3, .goto 379, 2231, 0, 0), 
  (1855, 1, .aload_n 1, 0, 0, 0), (1856, 1, .aload_n 0, 0, 0, 0), (1857, 1, .iload 4, 0, 0, 0), (1859, 0, .iconst 1, 0, 0, 0), 
  (1860, 0, .iadd, 0, 0, 0), (1861, 7, .iaload, 0, 0, 0), (1862, 1, .aload_n 0, 0, 0, 0), (1863, 1, .iload 4, 0, 0, 0), (1865, 0, .iconst 2, 0, 0, 0), 
  (1866, 0, .iadd, 0, 0, 0), (1867, 7, .iaload, 0, 0, 0), (1868, 1, .aload_n 0, 0, 0, 0), (1869, 1, .iload 4, 0, 0, 0), (1871, 0, .iconst 3, 0, 0, 0), 
  (1872, 0, .iadd, 0, 0, 0), (1873, 7, .iaload, 0, 0, 0), (1874, 1, .aload_n 3, 0, 0, 0), (1875, 12, .invokestatic 205, 327, 5, 0), 
  (1878, 22, .istore 5, 0, 0, 0), (1880, 1, .aload_n 2, 0, 0, 0), (1881, 1, .aload_n 0, 0, 0, 0), (1882, 1, .iload 4, 0, 0, 0), 
  (1884, 0, .iconst 1, 0, 0, 0), (1885, 0, .iadd, 0, 0, 0), (1886, 7, .iaload, 0, 0, 0), (1887, 1, .aload_n 0, 0, 0, 0), (1888, 1, .iload 4, 0, 0, 0), 
  (1890, 0, .iconst 2, 0, 0, 0), (1891, 0, .iadd, 0, 0, 0), (1892, 7, .iaload, 0, 0, 0), (1893, 1, .aload_n 0, 0, 0, 0), (1894, 1, .iload 4, 0, 0, 0), 
  (1896, 0, .iconst 3, 0, 0, 0), (1897, 0, .iadd, 0, 0, 0), (1898, 7, .iaload, 0, 0, 0), (1899, 12, .invokevirtual 207, 300, 4, 13), 
  (1902, 22, .istore 6, 0, 0, 0), (1904, 1, .aload_n 2, 0, 0, 0), (1905, 12, .invokevirtual 114, 184, 1, 13), (1908, 1, .iload 5, 0, 0, 0), 
  (1910, 3, .if_icmp .eq 5, 1915, 0, 0), (1913, 0, .iconst 0, 0, 0, 0), (1914, 13, .ireturn, 0, 0, 0), (1915, 1, .iload 5, 0, 0, 0), 
  (1917, 3, .ifCond .ne 15, 1932, 0, 0), (1920, 1, .aload_n 3, 0, 0, 0), (1921, 0, .iconst 0, 0, 0, 0), (1922, 7, .laload, 0, 0, 0), 
  (1923, 1, .iload 6, 0, 0, 0), (1925, 0, .i2l, 0, 0, 0), (1926, 0, .lcmp, 0, 0, 0), (1927, 3, .ifCond .eq 5, 1932, 0, 0), 
  (1930, 0, .iconst 0, 0, 0, 0), (1931, 13, .ireturn, 0, 0, 0), (1932, 3, .goto 299, 2231, 0, 0), (1935, 1, .aload_n 1, 0, 0, 0), 
  (1936, 1, .aload_n 0, 0, 0, 0), (1937, 1, .iload 4, 0, 0, 0), (1939, 0, .iconst 1, 0, 0, 0), (1940, 0, .iadd, 0, 0, 0), (1941, 7, .iaload, 0, 0, 0), 
  (1942, 1, .aload_n 0, 0, 0, 0), (1943, 1, .iload 4, 0, 0, 0), (1945, 0, .iconst 2, 0, 0, 0), (1946, 0, .iadd, 0, 0, 0), (1947, 7, .iaload, 0, 0, 0), 
  (1948, 1, .aload_n 3, 0, 0, 0), (1949, 12, .invokestatic 208, 328, 4, 0), (1952, 22, .istore 5, 0, 0, 0), (1954, 1, .aload_n 2, 0, 0, 0), 
  (1955, 1, .aload_n 0, 0, 0, 0), (1956, 1, .iload 4, 0, 0, 0), (1958, 0, .iconst 1, 0, 0, 0), (1959, 0, .iadd, 0, 0, 0), (1960, 7, .iaload, 0, 0, 0), 
  (1961, 1, .aload_n 0, 0, 0, 0), (1962, 1, .iload 4, 0, 0, 0), (1964, 0, .iconst 2, 0, 0, 0), (1965, 0, .iadd, 0, 0, 0), (1966, 7, .iaload, 0, 0, 0), 
  (1967, 12, .invokevirtual 210, 279, 3, 13), (1970, 22, .istore 6, 0, 0, 0), (1972, 1, .aload_n 2, 0, 0, 0), 
  (1973, 12, .invokevirtual 114, 184, 1, 13), (1976, 1, .iload 5, 0, 0, 0), (1978, 3, .if_icmp .eq 5, 1983, 0, 0)]
noncomputable def zk345_10 : List (Nat × zJ) := [
  (1981, 0, .iconst 0, 0, 0, 0), (1982, 13, .ireturn, 0, 0, 0), (1983, 1, .iload 5, 0, 0, 0), (1985, 3, .ifCond .ne 15, 2000, 0, 0), 
  (1988, 1, .aload_n 3, 0, 0, 0), (1989, 0, .iconst 0, 0, 0, 0), (1990, 7, .laload, 0, 0, 0), (1991, 1, .iload 6, 0, 0, 0), (1993, 0, .i2l, 0, 0, 0), 
  (1994, 0, .lcmp, 0, 0, 0), (1995, 3, .ifCond .eq 5, 2000, 0, 0), (1998, 0, .iconst 0, 0, 0, 0), (1999, 13, .ireturn, 0, 0, 0), 
  (2000, 3, .goto 231, 2231, 0, 0), (2003, 1, .aload_n 1, 0, 0, 0), (2004, 1, .aload_n 0, 0, 0, 0), (2005, 1, .iload 4, 0, 0, 0), 
  (2007, 0, .iconst 1, 0, 0, 0), (2008, 0, .iadd, 0, 0, 0), (2009, 7, .iaload, 0, 0, 0), (2010, 1, .aload_n 0, 0, 0, 0), (2011, 1, .iload 4, 0, 0, 0), 
  (2013, 0, .iconst 2, 0, 0, 0), (2014, 0, .iadd, 0, 0, 0), (2015, 7, .iaload, 0, 0, 0), (2016, 1, .aload_n 3, 0, 0, 0), 
  (2017, 12, .invokestatic 211, 329, 4, 0), (2020, 22, .istore 5, 0, 0, 0), (2022, 1, .aload_n 2, 0, 0, 0), (2023, 1, .aload_n 0, 0, 0, 0), 
  (2024, 1, .iload 4, 0, 0, 0), (2026, 0, .iconst 1, 0, 0, 0), (2027, 0, .iadd, 0, 0, 0), (2028, 7, .iaload, 0, 0, 0), (2029, 1, .aload_n 0, 0, 0, 0), 
  (2030, 1, .iload 4, 0, 0, 0), (2032, 0, .iconst 2, 0, 0, 0), (2033, 0, .iadd, 0, 0, 0), (2034, 7, .iaload, 0, 0, 0), 
  (2035, 12, .invokevirtual 213, 273, 3, 13), (2038, 22, .istore 6, 0, 0, 0), (2040, 1, .aload_n 2, 0, 0, 0), 
  (2041, 12, .invokevirtual 114, 184, 1, 13), (2044, 1, .iload 5, 0, 0, 0), (2046, 3, .if_icmp .eq 5, 2051, 0, 0), (2049, 0, .iconst 0, 0, 0, 0), 
  (2050, 13, .ireturn, 0, 0, 0), (2051, 1, .iload 5, 0, 0, 0), (2053, 3, .ifCond .ne 15, 2068, 0, 0), (2056, 1, .aload_n 3, 0, 0, 0), 
  (2057, 0, .iconst 0, 0, 0, 0), (2058, 7, .laload, 0, 0, 0), (2059, 1, .iload 6, 0, 0, 0), (2061, 0, .i2l, 0, 0, 0), (2062, 0, .lcmp, 0, 0, 0), 
  (2063, 3, .ifCond .eq 5, 2068, 0, 0), (2066, 0, .iconst 0, 0, 0, 0), (2067, 13, .ireturn, 0, 0, 0), (2068, 3, .goto 163, 2231, 0, 0), 
  (2071, 1, .aload_n 1, 0, 0, 0), (2072, 1, .aload_n 0, 0, 0, 0), (2073, 1, .iload 4, 0, 0, 0), (2075, 0, .iconst 1, 0, 0, 0), 
  (2076, 0, .iadd, 0, 0, 0), (2077, 7, .iaload, 0, 0, 0), (2078, 1, .aload_n 0, 0, 0, 0), (2079, 1, .iload 4, 0, 0, 0), (2081, 0, .iconst 2, 0, 0, 0), 
  (2082, 0, .iadd, 0, 0, 0), (2083, 7, .iaload, 0, 0, 0), (2084, 1, .aload_n 3, 0, 0, 0), (2085, 12, .invokestatic 214, 330, 4, 0), 
  (2088, 22, .istore 5, 0, 0, 0), (2090, 1, .aload_n 2, 0, 0, 0), (2091, 1, .aload_n 0, 0, 0, 0), (2092, 1, .iload 4, 0, 0, 0), 
  (2094, 0, .iconst 1, 0, 0, 0), (2095, 0, .iadd, 0, 0, 0), (2096, 7, .iaload, 0, 0, 0), (2097, 1, .aload_n 0, 0, 0, 0), (2098, 1, .iload 4, 0, 0, 0), 
  (2100, 0, .iconst 2, 0, 0, 0), (2101, 0, .iadd, 0, 0, 0), (2102, 7, .iaload, 0, 0, 0), (2103, 12, .invokevirtual 216, 274, 3, 13), 
  (2106, 22, .istore 6, 0, 0, 0), (2108, 1, .aload_n 2, 0, 0, 0), (2109, 12, .invokevirtual 114, 184, 1, 13), (2112, 1, .iload 5, 0, 0, 0), 
  (2114, 3, .if_icmp .eq 5, 2119, 0, 0), (2117, 0, .iconst 0, 0, 0, 0), (2118, 13, .ireturn, 0, 0, 0), (2119, 1, .iload 5, 0, 0, 0), 
  (2121, 3, .ifCond .ne 15, 2136, 0, 0), (2124, 1, .aload_n 3, 0, 0, 0), (2125, 0, .iconst 0, 0, 0, 0), (2126, 7, .laload, 0, 0, 0), 
  (2127, 1, .iload 6, 0, 0, 0), (2129, 0, .i2l, 0, 0, 0), (2130, 0, .lcmp, 0, 0, 0), (2131, 3, .ifCond .eq 5, 2136, 0, 0), 
  (2134, 0, .iconst 0, 0, 0, 0), (2135, 13, .ireturn, 0, 0, 0), (2136, 3, .goto 95, 2231, 0, 0), (2139, 1, .aload_n 1, 0, 0, 0), 
  (2140, 1, .aload_n 0, 0, 0, 0), (2141, 1, .iload 4, 0, 0, 0), (2143, 0, .iconst 1, 0, 0, 0), (2144, 0, .iadd, 0, 0, 0), (2145, 7, .iaload, 0, 0, 0), 
  (2146, 1, .aload_n 0, 0, 0, 0), (2147, 1, .iload 4, 0, 0, 0), (2149, 0, .iconst 2, 0, 0, 0), (2150, 0, .iadd, 0, 0, 0), (2151, 7, .iaload, 0, 0, 0), 
  (2152, 1, .aload_n 3, 0, 0, 0), (2153, 12, .invokestatic 217, 331, 4, 0), (2156, 22, .istore 5, 0, 0, 0), (2158, 1, .aload_n 2, 0, 0, 0), 
  (2159, 1, .aload_n 0, 0, 0, 0)]
noncomputable def zk345_11 : List (Nat × zJ) := [
  (2160, 1, .iload 4, 0, 0, 0), (2162, 0, .iconst 1, 0, 0, 0), (2163, 0, .iadd, 0, 0, 0), (2164, 7, .iaload, 0, 0, 0), (2165, 1, .aload_n 0, 0, 0, 0), 
  (2166, 1, .iload 4, 0, 0, 0), (2168, 0, .iconst 2, 0, 0, 0), (2169, 0, .iadd, 0, 0, 0), (2170, 7, .iaload, 0, 0, 0), 
  (2171, 12, .invokevirtual 219, 275, 3, 13), (2174, 22, .istore 6, 0, 0, 0), (2176, 1, .aload_n 2, 0, 0, 0), 
  (2177, 12, .invokevirtual 114, 184, 1, 13), (2180, 1, .iload 5, 0, 0, 0), (2182, 3, .if_icmp .eq 5, 2187, 0, 0), (2185, 0, .iconst 0, 0, 0, 0), 
  (2186, 13, .ireturn, 0, 0, 0), (2187, 1, .iload 5, 0, 0, 0), (2189, 3, .ifCond .ne 15, 2204, 0, 0), (2192, 1, .aload_n 3, 0, 0, 0), 
  (2193, 0, .iconst 0, 0, 0, 0), (2194, 7, .laload, 0, 0, 0), (2195, 1, .iload 6, 0, 0, 0), (2197, 0, .i2l, 0, 0, 0), (2198, 0, .lcmp, 0, 0, 0), 
  (2199, 3, .ifCond .eq 5, 2204, 0, 0), (2202, 0, .iconst 0, 0, 0, 0), (2203, 13, .ireturn, 0, 0, 0), (2204, 3, .goto 27, 2231, 0, 0), 
  (2207, 1, .aload_n 1, 0, 0, 0), (2208, 12, .invokevirtual 220, 149, 1, 12), (2211, 1, .aload_n 2, 0, 0, 0), 
  (2212, 12, .invokevirtual 223, 303, 1, 13), (2215, 3, .goto 16, 2231, 0, 0), (2218, 1, .aload_n 1, 0, 0, 0), 
  (2219, 12, .invokevirtual 224, 150, 1, 12), (2222, 1, .aload_n 2, 0, 0, 0), (2223, 12, .invokevirtual 228, 304, 1, 13), 
  (2226, 3, .if_icmp .eq 5, 2231, 0, 0), (2229, 0, .iconst 0, 0, 0, 0), (2230, 13, .ireturn, 0, 0, 0), (2231, 22, .iinc 4 6, 0, 0, 0), 
  (2234, 3, .goto (-2211), 23, 0, 0), (2237, 0, .iconst 1, 0, 0, 0), (2238, 13, .ireturn, 0, 0, 0)]
noncomputable def zk345 : List (Nat × zJ) := zk345_0 ++ (zk345_1 ++ (zk345_2 ++ (zk345_3 ++ (zk345_4 ++ (zk345_5 ++ (zk345_6 ++ (zk345_7 ++ (zk345_8 ++ (zk345_9 ++ (zk345_10 ++ (zk345_11)))))))))))
noncomputable def zMl0 : List zM := [(zk0, 1, (Option.none : Option Jvm.ClassFile.FieldType), []),
  (zk1, 1, (Option.none : Option Jvm.ClassFile.FieldType), []),
  (zk2, 1, (Option.none : Option Jvm.ClassFile.FieldType), []),
  (zk3, 2, (Option.none : Option Jvm.ClassFile.FieldType), []),
  (zk4, 2, (Option.none : Option Jvm.ClassFile.FieldType), []),
  (zk5, 4, (Option.none : Option Jvm.ClassFile.FieldType), []),
  (zk6, 3, (Option.none : Option Jvm.ClassFile.FieldType), []),
  (zk7, 10, (Option.some Jvm.ClassFile.FieldType.int), []),
  (zk8, 7, (Option.none : Option Jvm.ClassFile.FieldType), []),
  (zk9, 3, (Option.none : Option Jvm.ClassFile.FieldType), []),
  (zk10, 2, (Option.some Jvm.ClassFile.FieldType.int), []),
  (zk11, 3, (Option.some Jvm.ClassFile.FieldType.int), []),
  (zk12, 2, (Option.some Jvm.ClassFile.FieldType.boolean), []),
  (zk13, 2, (Option.some Jvm.ClassFile.FieldType.int), []),
  (zk14, 6, (Option.none : Option Jvm.ClassFile.FieldType), []),
  (zk15, 2, (Option.some Jvm.ClassFile.FieldType.int), [])]
noncomputable def zMl1 : List zM := [(zk16, 2, (Option.none : Option Jvm.ClassFile.FieldType), []),
  (zk17, 2, (Option.none : Option Jvm.ClassFile.FieldType), []),
  (zk18, 3, (Option.none : Option Jvm.ClassFile.FieldType), []),
  (zk19, 3, (Option.none : Option Jvm.ClassFile.FieldType), []),
  (zk20, 3, (Option.some Jvm.ClassFile.FieldType.int), []),
  (zk21, 4, (Option.some Jvm.ClassFile.FieldType.boolean), []),
  (zk22, 7, (Option.some Jvm.ClassFile.FieldType.int), []),
  (zk23, 4, (Option.some Jvm.ClassFile.FieldType.int), []),
  (zk24, 4, (Option.none : Option Jvm.ClassFile.FieldType), []),
  (zk25, 4, (Option.some Jvm.ClassFile.FieldType.boolean), []),
  (zk26, 3, (Option.some Jvm.ClassFile.FieldType.boolean), []),
  (zk27, 5, (Option.some Jvm.ClassFile.FieldType.int), []),
  (zk28, 7, (Option.some Jvm.ClassFile.FieldType.int), []),
  (zk29, 6, (Option.some Jvm.ClassFile.FieldType.int), []),
  (zk30, 4, (Option.some Jvm.ClassFile.FieldType.int), []),
  (zk31, 4, (Option.some Jvm.ClassFile.FieldType.int), [])]
noncomputable def zMl2 : List zM := [(zk32, 4, (Option.some Jvm.ClassFile.FieldType.int), []),
  (zk33, 4, (Option.some Jvm.ClassFile.FieldType.int), []),
  (zk34, 5, (Option.some Jvm.ClassFile.FieldType.int), []),
  (zk35, 3, (Option.some Jvm.ClassFile.FieldType.int), []),
  (zk36, 5, (Option.some Jvm.ClassFile.FieldType.int), []),
  (zk37, 4, (Option.some Jvm.ClassFile.FieldType.int), []),
  (zk38, 5, (Option.some Jvm.ClassFile.FieldType.int), []),
  (zk39, 5, (Option.some Jvm.ClassFile.FieldType.int), []),
  (zk40, 5, (Option.some Jvm.ClassFile.FieldType.int), []),
  (zk41, 3, (Option.none : Option Jvm.ClassFile.FieldType), []),
  (zk42, 2, (Option.some Jvm.ClassFile.FieldType.int), []),
  (zk43, 4, (Option.some Jvm.ClassFile.FieldType.int), []),
  (zk44, 3, (Option.some (Jvm.ClassFile.FieldType.object "TemperDowns$Scene")), []),
  (zk45, 4, (Option.some Jvm.ClassFile.FieldType.int), []),
  (zk46, 4, (Option.some Jvm.ClassFile.FieldType.int), []),
  (zk47, 5, (Option.some Jvm.ClassFile.FieldType.int), [])]
noncomputable def zMl3 : List zM := [(zk48, 3, (Option.none : Option Jvm.ClassFile.FieldType), []),
  (zk49, 1, (Option.some Jvm.ClassFile.FieldType.boolean), []),
  (zk50, 3, (Option.some Jvm.ClassFile.FieldType.int), []),
  (zk51, 3, (Option.some Jvm.ClassFile.FieldType.boolean), []),
  (zk52, 3, (Option.some Jvm.ClassFile.FieldType.boolean), []),
  (zk53, 6, (Option.none : Option Jvm.ClassFile.FieldType), []),
  (zk54, 5, (Option.none : Option Jvm.ClassFile.FieldType), []),
  (zk55, 3, (Option.some Jvm.ClassFile.FieldType.int), []),
  (zk56, 4, (Option.some Jvm.ClassFile.FieldType.int), []),
  (zk57, 1, (Option.none : Option Jvm.ClassFile.FieldType), []),
  (zk58, 1, (Option.none : Option Jvm.ClassFile.FieldType), []),
  (zk59, 6, (Option.none : Option Jvm.ClassFile.FieldType), []),
  (zk60, 5, (Option.some Jvm.ClassFile.FieldType.int), []),
  (zk61, 2, (Option.none : Option Jvm.ClassFile.FieldType), []),
  (zk62, 3, (Option.none : Option Jvm.ClassFile.FieldType), []),
  (zk63, 4, (Option.some Jvm.ClassFile.FieldType.int), [])]
noncomputable def zMl4 : List zM := [(zk64, 4, (Option.some Jvm.ClassFile.FieldType.int), []),
  (zk65, 8, (Option.some Jvm.ClassFile.FieldType.int), []),
  (zk66, 7, (Option.some Jvm.ClassFile.FieldType.int), []),
  (zk67, 5, (Option.some Jvm.ClassFile.FieldType.int), []),
  (zk68, 3, (Option.some Jvm.ClassFile.FieldType.int), []),
  (zk69, 3, (Option.some Jvm.ClassFile.FieldType.boolean), []),
  (zk70, 6, (Option.none : Option Jvm.ClassFile.FieldType), []),
  (zk71, 5, (Option.some Jvm.ClassFile.FieldType.int), []),
  (zk72, 3, (Option.none : Option Jvm.ClassFile.FieldType), []),
  (zk73, 6, (Option.none : Option Jvm.ClassFile.FieldType), []),
  (zk74, 3, (Option.none : Option Jvm.ClassFile.FieldType), []),
  (zk75, 3, (Option.none : Option Jvm.ClassFile.FieldType), []),
  (zk76, 3, (Option.some Jvm.ClassFile.FieldType.int), []),
  (zk77, 3, (Option.some Jvm.ClassFile.FieldType.int), []),
  (zk78, 7, (Option.some Jvm.ClassFile.FieldType.int), []),
  (zk79, 2, (Option.some Jvm.ClassFile.FieldType.int), [])]
noncomputable def zMl5 : List zM := [(zk80, 6, (Option.some Jvm.ClassFile.FieldType.int), []),
  (zk81, 3, (Option.none : Option Jvm.ClassFile.FieldType), []),
  (zk82, 2, (Option.none : Option Jvm.ClassFile.FieldType), []),
  (zk83, 3, (Option.some Jvm.ClassFile.FieldType.int), []),
  (zk84, 1, (Option.none : Option Jvm.ClassFile.FieldType), []),
  (zk85, 1, (Option.some Jvm.ClassFile.FieldType.boolean), []),
  (zk86, 1, (Option.some Jvm.ClassFile.FieldType.boolean), []),
  (zk87, 3, (Option.some Jvm.ClassFile.FieldType.boolean), []),
  (zk88, 2, (Option.some Jvm.ClassFile.FieldType.boolean), []),
  (zk89, 3, (Option.some Jvm.ClassFile.FieldType.boolean), []),
  (zk90, 2, (Option.some Jvm.ClassFile.FieldType.boolean), []),
  (zk91, 2, (Option.some Jvm.ClassFile.FieldType.boolean), []),
  (zk92, 2, (Option.some Jvm.ClassFile.FieldType.boolean), []),
  (zk93, 1, (Option.some Jvm.ClassFile.FieldType.boolean), []),
  (zk94, 2, (Option.some Jvm.ClassFile.FieldType.boolean), []),
  (zk95, 1, (Option.some Jvm.ClassFile.FieldType.boolean), [])]
noncomputable def zMl6 : List zM := [(zk96, 2, (Option.some Jvm.ClassFile.FieldType.boolean), []),
  (zk97, 2, (Option.some Jvm.ClassFile.FieldType.boolean), []),
  (zk98, 3, (Option.some Jvm.ClassFile.FieldType.boolean), []),
  (zk99, 3, (Option.some Jvm.ClassFile.FieldType.boolean), []),
  (zk100, 4, (Option.some Jvm.ClassFile.FieldType.boolean), []),
  (zk101, 3, (Option.some Jvm.ClassFile.FieldType.boolean), []),
  (zk102, 4, (Option.some Jvm.ClassFile.FieldType.boolean), []),
  (zk103, 4, (Option.some Jvm.ClassFile.FieldType.boolean), []),
  (zk104, 3, (Option.some Jvm.ClassFile.FieldType.boolean), []),
  (zk105, 1, (Option.some Jvm.ClassFile.FieldType.int), []),
  (zk106, 1, (Option.some Jvm.ClassFile.FieldType.int), []),
  (zk107, 1, (Option.none : Option Jvm.ClassFile.FieldType), []),
  (zk108, 1, (Option.none : Option Jvm.ClassFile.FieldType), []),
  (zk109, 1, (Option.some Jvm.ClassFile.FieldType.boolean), []),
  (zk110, 6, (Option.some Jvm.ClassFile.FieldType.int), []),
  (zk111, 2, (Option.some Jvm.ClassFile.FieldType.int), [])]
noncomputable def zMl7 : List zM := [(zk112, 3, (Option.some Jvm.ClassFile.FieldType.int), []),
  (zk113, 2, (Option.none : Option Jvm.ClassFile.FieldType), []),
  (zk114, 2, (Option.none : Option Jvm.ClassFile.FieldType), []),
  (zk115, 1, (Option.none : Option Jvm.ClassFile.FieldType), []),
  (zk116, 2, (Option.none : Option Jvm.ClassFile.FieldType), []),
  (zk117, 1, (Option.some Jvm.ClassFile.FieldType.int), []),
  (zk118, 2, (Option.some Jvm.ClassFile.FieldType.int), []),
  (zk119, 2, (Option.some Jvm.ClassFile.FieldType.int), []),
  (zk120, 2, (Option.some Jvm.ClassFile.FieldType.int), []),
  (zk121, 2, (Option.some Jvm.ClassFile.FieldType.int), []),
  (zk122, 3, (Option.none : Option Jvm.ClassFile.FieldType), []),
  (zk123, 2, (Option.some Jvm.ClassFile.FieldType.boolean), []),
  (zk124, 2, (Option.some Jvm.ClassFile.FieldType.int), []),
  (zk125, 4, (Option.none : Option Jvm.ClassFile.FieldType), []),
  (zk126, 2, (Option.none : Option Jvm.ClassFile.FieldType), []),
  (zk127, 2, (Option.none : Option Jvm.ClassFile.FieldType), [])]
noncomputable def zMl8 : List zM := [(zk128, 2, (Option.some Jvm.ClassFile.FieldType.int), []),
  (zk129, 2, (Option.some Jvm.ClassFile.FieldType.int), []),
  (zk130, 1, (Option.some Jvm.ClassFile.FieldType.int), []),
  (zk131, 3, (Option.none : Option Jvm.ClassFile.FieldType), []),
  (zk132, 1, (Option.none : Option Jvm.ClassFile.FieldType), []),
  (zk133, 2, (Option.none : Option Jvm.ClassFile.FieldType), []),
  (zk134, 3, (Option.none : Option Jvm.ClassFile.FieldType), []),
  (zk135, 3, (Option.none : Option Jvm.ClassFile.FieldType), []),
  (zk136, 2, (Option.some Jvm.ClassFile.FieldType.boolean), []),
  (zk137, 2, (Option.some Jvm.ClassFile.FieldType.boolean), []),
  (zk138, 2, (Option.some Jvm.ClassFile.FieldType.int), []),
  (zk139, 2, (Option.none : Option Jvm.ClassFile.FieldType), []),
  (zk140, 1, (Option.none : Option Jvm.ClassFile.FieldType), []),
  (zk141, 6, (Option.some Jvm.ClassFile.FieldType.int), []),
  (zk142, 3, (Option.none : Option Jvm.ClassFile.FieldType), []),
  (zk143, 1, (Option.some Jvm.ClassFile.FieldType.int), [])]
noncomputable def zMl9 : List zM := [(zk144, 3, (Option.some Jvm.ClassFile.FieldType.int), []),
  (zk145, 2, (Option.some Jvm.ClassFile.FieldType.int), []),
  (zk146, 1, (Option.some Jvm.ClassFile.FieldType.int), []),
  (zk147, 1, (Option.some Jvm.ClassFile.FieldType.int), []),
  (zk148, 1, (Option.none : Option Jvm.ClassFile.FieldType), []),
  (zk149, 1, (Option.none : Option Jvm.ClassFile.FieldType), []),
  (zk150, 1, (Option.some Jvm.ClassFile.FieldType.boolean), []),
  (zk151, 3, (Option.some Jvm.ClassFile.FieldType.int), []),
  (zk152, 2, (Option.some Jvm.ClassFile.FieldType.int), []),
  (zk153, 3, (Option.some Jvm.ClassFile.FieldType.int), []),
  (zk154, 2, (Option.none : Option Jvm.ClassFile.FieldType), []),
  (zk155, 3, (Option.some Jvm.ClassFile.FieldType.int), []),
  (zk156, 2, (Option.none : Option Jvm.ClassFile.FieldType), []),
  (zk157, 2, (Option.some Jvm.ClassFile.FieldType.int), []),
  (zk158, 4, (Option.some Jvm.ClassFile.FieldType.int), []),
  (zk159, 2, (Option.none : Option Jvm.ClassFile.FieldType), [])]
noncomputable def zMl10 : List zM := [(zk160, 3, (Option.some Jvm.ClassFile.FieldType.boolean), []),
  (zk161, 4, (Option.some Jvm.ClassFile.FieldType.int), []),
  (zk162, 5, (Option.some Jvm.ClassFile.FieldType.int), []),
  (zk163, 3, (Option.none : Option Jvm.ClassFile.FieldType), []),
  (zk164, 3, (Option.none : Option Jvm.ClassFile.FieldType), []),
  (zk165, 5, (Option.some Jvm.ClassFile.FieldType.int), []),
  (zk166, 2, (Option.some Jvm.ClassFile.FieldType.int), []),
  (zk167, 4, (Option.some Jvm.ClassFile.FieldType.int), []),
  (zk168, 3, (Option.some Jvm.ClassFile.FieldType.int), []),
  (zk169, 4, (Option.some Jvm.ClassFile.FieldType.int), []),
  (zk170, 4, (Option.some Jvm.ClassFile.FieldType.int), []),
  (zk171, 2, (Option.some Jvm.ClassFile.FieldType.int), []),
  (zk172, 2, (Option.some Jvm.ClassFile.FieldType.int), []),
  (zk173, 4, (Option.some Jvm.ClassFile.FieldType.int), []),
  (zk174, 2, (Option.some Jvm.ClassFile.FieldType.int), []),
  (zk175, 3, (Option.some Jvm.ClassFile.FieldType.int), [])]
noncomputable def zMl11 : List zM := [(zk176, 4, (Option.some Jvm.ClassFile.FieldType.int), []),
  (zk177, 4, (Option.some Jvm.ClassFile.FieldType.int), []),
  (zk178, 4, (Option.some Jvm.ClassFile.FieldType.int), []),
  (zk179, 3, (Option.some Jvm.ClassFile.FieldType.int), []),
  (zk180, 3, (Option.some Jvm.ClassFile.FieldType.int), []),
  (zk181, 3, (Option.some Jvm.ClassFile.FieldType.int), []),
  (zk182, 3, (Option.some Jvm.ClassFile.FieldType.int), []),
  (zk183, 1, (Option.none : Option Jvm.ClassFile.FieldType), []),
  (zk184, 1, (Option.some Jvm.ClassFile.FieldType.int), []),
  (zk185, 6, (Option.some Jvm.ClassFile.FieldType.int), []),
  (zk186, 3, (Option.none : Option Jvm.ClassFile.FieldType), []),
  (zk187, 3, (Option.some Jvm.ClassFile.FieldType.int), []),
  (zk188, 3, (Option.some Jvm.ClassFile.FieldType.boolean), []),
  (zk189, 2, (Option.none : Option Jvm.ClassFile.FieldType), []),
  (zk190, 2, (Option.some Jvm.ClassFile.FieldType.int), []),
  (zk191, 1, (Option.some Jvm.ClassFile.FieldType.boolean), [])]
noncomputable def zMl12 : List zM := [(zk192, 1, (Option.some Jvm.ClassFile.FieldType.boolean), []),
  (zk193, 2, (Option.some Jvm.ClassFile.FieldType.int), []),
  (zk194, 1, (Option.some Jvm.ClassFile.FieldType.long), []),
  (zk195, 8, (Option.some Jvm.ClassFile.FieldType.long), []),
  (zk196, 4, (Option.some Jvm.ClassFile.FieldType.int), []),
  (zk197, 1, (Option.some Jvm.ClassFile.FieldType.boolean), []),
  (zk198, 2, (Option.none : Option Jvm.ClassFile.FieldType), []),
  (zk199, 2, (Option.some Jvm.ClassFile.FieldType.boolean), []),
  (zk200, 2, (Option.none : Option Jvm.ClassFile.FieldType), []),
  (zk201, 2, (Option.none : Option Jvm.ClassFile.FieldType), []),
  (zk202, 3, (Option.some Jvm.ClassFile.FieldType.boolean), []),
  (zk203, 2, (Option.none : Option Jvm.ClassFile.FieldType), []),
  (zk204, 2, (Option.some Jvm.ClassFile.FieldType.int), []),
  (zk205, 2, (Option.none : Option Jvm.ClassFile.FieldType), []),
  (zk206, 5, (Option.none : Option Jvm.ClassFile.FieldType), []),
  (zk207, 1, (Option.none : Option Jvm.ClassFile.FieldType), [])]
noncomputable def zMl13 : List zM := [(zk208, 5, (Option.none : Option Jvm.ClassFile.FieldType), []),
  (zk209, 2, (Option.none : Option Jvm.ClassFile.FieldType), []),
  (zk210, 2, (Option.none : Option Jvm.ClassFile.FieldType), []),
  (zk211, 2, (Option.none : Option Jvm.ClassFile.FieldType), []),
  (zk212, 2, (Option.none : Option Jvm.ClassFile.FieldType), []),
  (zk213, 1, (Option.some Jvm.ClassFile.FieldType.boolean), []),
  (zk214, 1, (Option.some Jvm.ClassFile.FieldType.int), []),
  (zk215, 2, (Option.some Jvm.ClassFile.FieldType.boolean), []),
  (zk216, 1, (Option.none : Option Jvm.ClassFile.FieldType), []),
  (zk217, 4, (Option.none : Option Jvm.ClassFile.FieldType), []),
  (zk218, 1, (Option.some Jvm.ClassFile.FieldType.int), []),
  (zk219, 2, (Option.some Jvm.ClassFile.FieldType.int), []),
  (zk220, 2, (Option.some Jvm.ClassFile.FieldType.int), []),
  (zk221, 3, (Option.some Jvm.ClassFile.FieldType.boolean), []),
  (zk222, 4, (Option.some Jvm.ClassFile.FieldType.int), []),
  (zk223, 3, (Option.some Jvm.ClassFile.FieldType.boolean), [])]
noncomputable def zMl14 : List zM := [(zk224, 4, (Option.some Jvm.ClassFile.FieldType.int), []),
  (zk225, 6, (Option.some Jvm.ClassFile.FieldType.int), []),
  (zk226, 4, (Option.some Jvm.ClassFile.FieldType.int), []),
  (zk227, 2, (Option.some Jvm.ClassFile.FieldType.int), []),
  (zk228, 3, (Option.some Jvm.ClassFile.FieldType.int), []),
  (zk229, 8, (Option.some Jvm.ClassFile.FieldType.int), []),
  (zk230, 4, (Option.some Jvm.ClassFile.FieldType.boolean), []),
  (zk231, 3, (Option.some Jvm.ClassFile.FieldType.int), []),
  (zk232, 2, (Option.some Jvm.ClassFile.FieldType.int), []),
  (zk233, 3, (Option.some Jvm.ClassFile.FieldType.int), []),
  (zk234, 2, (Option.some Jvm.ClassFile.FieldType.boolean), []),
  (zk235, 3, (Option.some Jvm.ClassFile.FieldType.boolean), []),
  (zk236, 5, (Option.some Jvm.ClassFile.FieldType.int), []),
  (zk237, 5, (Option.some Jvm.ClassFile.FieldType.int), []),
  (zk238, 3, (Option.some Jvm.ClassFile.FieldType.int), []),
  (zk239, 2, (Option.some Jvm.ClassFile.FieldType.boolean), [])]
noncomputable def zMl15 : List zM := [(zk240, 2, (Option.some Jvm.ClassFile.FieldType.int), []),
  (zk241, 5, (Option.some Jvm.ClassFile.FieldType.int), []),
  (zk242, 3, (Option.some Jvm.ClassFile.FieldType.int), []),
  (zk243, 2, (Option.some Jvm.ClassFile.FieldType.int), []),
  (zk244, 2, (Option.none : Option Jvm.ClassFile.FieldType), []),
  (zk245, 2, (Option.none : Option Jvm.ClassFile.FieldType), []),
  (zk246, 1, (Option.none : Option Jvm.ClassFile.FieldType), []),
  (zk247, 5, (Option.none : Option Jvm.ClassFile.FieldType), []),
  (zk248, 3, (Option.none : Option Jvm.ClassFile.FieldType), []),
  (zk249, 3, (Option.some Jvm.ClassFile.FieldType.int), []),
  (zk250, 5, (Option.some Jvm.ClassFile.FieldType.int), []),
  (zk251, 3, (Option.some Jvm.ClassFile.FieldType.int), []),
  (zk252, 3, (Option.some Jvm.ClassFile.FieldType.int), []),
  (zk253, 2, (Option.some Jvm.ClassFile.FieldType.int), []),
  (zk254, 4, (Option.some Jvm.ClassFile.FieldType.boolean), []),
  (zk255, 5, (Option.some Jvm.ClassFile.FieldType.boolean), [])]
noncomputable def zMl16 : List zM := [(zk256, 7, (Option.some Jvm.ClassFile.FieldType.int), []),
  (zk257, 2, (Option.some Jvm.ClassFile.FieldType.int), []),
  (zk258, 3, (Option.some Jvm.ClassFile.FieldType.boolean), []),
  (zk259, 4, (Option.some Jvm.ClassFile.FieldType.int), []),
  (zk260, 2, (Option.some Jvm.ClassFile.FieldType.boolean), []),
  (zk261, 3, (Option.some Jvm.ClassFile.FieldType.boolean), []),
  (zk262, 4, (Option.some Jvm.ClassFile.FieldType.int), []),
  (zk263, 4, (Option.some Jvm.ClassFile.FieldType.int), []),
  (zk264, 4, (Option.some Jvm.ClassFile.FieldType.boolean), []),
  (zk265, 2, (Option.none : Option Jvm.ClassFile.FieldType), []),
  (zk266, 2, (Option.none : Option Jvm.ClassFile.FieldType), []),
  (zk267, 3, (Option.none : Option Jvm.ClassFile.FieldType), []),
  (zk268, 4, (Option.some Jvm.ClassFile.FieldType.int), []),
  (zk269, 3, (Option.some Jvm.ClassFile.FieldType.int), []),
  (zk270, 2, (Option.some Jvm.ClassFile.FieldType.int), []),
  (zk271, 2, (Option.some Jvm.ClassFile.FieldType.int), [])]
noncomputable def zMl17 : List zM := [(zk272, 6, (Option.some Jvm.ClassFile.FieldType.int), []),
  (zk273, 4, (Option.some Jvm.ClassFile.FieldType.int), []),
  (zk274, 6, (Option.some Jvm.ClassFile.FieldType.int), []),
  (zk275, 5, (Option.some Jvm.ClassFile.FieldType.int), []),
  (zk276, 6, (Option.some Jvm.ClassFile.FieldType.int), []),
  (zk277, 7, (Option.some Jvm.ClassFile.FieldType.int), []),
  (zk278, 5, (Option.some Jvm.ClassFile.FieldType.int), []),
  (zk279, 6, (Option.some Jvm.ClassFile.FieldType.int), []),
  (zk280, 7, (Option.some Jvm.ClassFile.FieldType.int), []),
  (zk281, 7, (Option.none : Option Jvm.ClassFile.FieldType), []),
  (zk282, 4, (Option.some Jvm.ClassFile.FieldType.boolean), []),
  (zk283, 3, (Option.some Jvm.ClassFile.FieldType.int), []),
  (zk284, 5, (Option.some Jvm.ClassFile.FieldType.int), []),
  (zk285, 4, (Option.none : Option Jvm.ClassFile.FieldType), []),
  (zk286, 5, (Option.none : Option Jvm.ClassFile.FieldType), []),
  (zk287, 4, (Option.some Jvm.ClassFile.FieldType.boolean), [])]
noncomputable def zMl18 : List zM := [(zk288, 4, (Option.some Jvm.ClassFile.FieldType.int), []),
  (zk289, 2, (Option.some Jvm.ClassFile.FieldType.int), []),
  (zk290, 4, (Option.some Jvm.ClassFile.FieldType.int), []),
  (zk291, 1, (Option.none : Option Jvm.ClassFile.FieldType), []),
  (zk292, 5, (Option.some Jvm.ClassFile.FieldType.int), []),
  (zk293, 3, (Option.some Jvm.ClassFile.FieldType.boolean), []),
  (zk294, 3, (Option.some Jvm.ClassFile.FieldType.boolean), []),
  (zk295, 10, (Option.some Jvm.ClassFile.FieldType.int), []),
  (zk296, 9, (Option.some Jvm.ClassFile.FieldType.int), []),
  (zk297, 3, (Option.none : Option Jvm.ClassFile.FieldType), []),
  (zk298, 9, (Option.some Jvm.ClassFile.FieldType.int), []),
  (zk299, 5, (Option.some Jvm.ClassFile.FieldType.int), []),
  (zk300, 6, (Option.some Jvm.ClassFile.FieldType.int), []),
  (zk301, 3, (Option.none : Option Jvm.ClassFile.FieldType), []),
  (zk302, 2, (Option.some Jvm.ClassFile.FieldType.int), []),
  (zk303, 2, (Option.none : Option Jvm.ClassFile.FieldType), [])]
noncomputable def zMl19 : List zM := [(zk304, 2, (Option.some Jvm.ClassFile.FieldType.boolean), []),
  (zk305, 4, (Option.some Jvm.ClassFile.FieldType.int), [(4, 1, 3, 13)]),
  (zk306, 4, (Option.some Jvm.ClassFile.FieldType.int), [(4, 0, 3, 13)]),
  (zk307, 5, (Option.some Jvm.ClassFile.FieldType.int), [(5, 0, 4, 15)]),
  (zk308, 5, (Option.some Jvm.ClassFile.FieldType.int), [(5, 0, 4, 15)]),
  (zk309, 4, (Option.some Jvm.ClassFile.FieldType.int), [(4, 0, 3, 13)]),
  (zk310, 5, (Option.some Jvm.ClassFile.FieldType.int), [(5, 0, 4, 15)]),
  (zk311, 5, (Option.some Jvm.ClassFile.FieldType.int), [(5, 0, 4, 22)]),
  (zk312, 5, (Option.some Jvm.ClassFile.FieldType.int), [(5, 0, 4, 15)]),
  (zk313, 6, (Option.some Jvm.ClassFile.FieldType.int), [(7, 0, 5, 17), (7, 1, 5, 21)]),
  (zk314, 6, (Option.some Jvm.ClassFile.FieldType.int), [(7, 0, 5, 17), (7, 1, 5, 21)]),
  (zk315, 4, (Option.some Jvm.ClassFile.FieldType.int), [(4, 0, 3, 13)]),
  (zk316, 5, (Option.some Jvm.ClassFile.FieldType.int), [(5, 0, 4, 15), (5, 1, 4, 19)]),
  (zk317, 5, (Option.some Jvm.ClassFile.FieldType.int), [(5, 0, 4, 15)]),
  (zk318, 5, (Option.some Jvm.ClassFile.FieldType.int), [(5, 0, 4, 15)]),
  (zk319, 6, (Option.some Jvm.ClassFile.FieldType.int), [(7, 0, 5, 17)])]
noncomputable def zMl20 : List zM := [(zk320, 4, (Option.some Jvm.ClassFile.FieldType.int), [(4, 0, 3, 13)]),
  (zk321, 4, (Option.some Jvm.ClassFile.FieldType.int), [(4, 0, 3, 13)]),
  (zk322, 6, (Option.some Jvm.ClassFile.FieldType.int), [(7, 0, 5, 17)]),
  (zk323, 4, (Option.some Jvm.ClassFile.FieldType.int), [(4, 0, 3, 13)]),
  (zk324, 4, (Option.some Jvm.ClassFile.FieldType.int), [(4, 0, 3, 13)]),
  (zk325, 6, (Option.some Jvm.ClassFile.FieldType.int), [(7, 0, 5, 17), (7, 1, 5, 21)]),
  (zk326, 6, (Option.some Jvm.ClassFile.FieldType.int), [(7, 0, 5, 17), (7, 1, 5, 21)]),
  (zk327, 6, (Option.some Jvm.ClassFile.FieldType.int), [(7, 0, 5, 17), (7, 1, 5, 21)]),
  (zk328, 5, (Option.some Jvm.ClassFile.FieldType.int), [(5, 0, 4, 15)]),
  (zk329, 5, (Option.some Jvm.ClassFile.FieldType.int), [(5, 0, 4, 15)]),
  (zk330, 5, (Option.some Jvm.ClassFile.FieldType.int), [(5, 0, 4, 15), (5, 1, 4, 19)]),
  (zk331, 5, (Option.some Jvm.ClassFile.FieldType.int), [(5, 0, 4, 15), (5, 1, 4, 19)]),
  (zk332, 1, (Option.some Jvm.ClassFile.FieldType.int), []),
  (zk333, 2, (Option.some Jvm.ClassFile.FieldType.int), []),
  (zk334, 3, (Option.some Jvm.ClassFile.FieldType.int), []),
  (zk335, 1, (Option.some Jvm.ClassFile.FieldType.boolean), [])]
noncomputable def zMl21 : List zM := [(zk336, 1, (Option.some Jvm.ClassFile.FieldType.int), []),
  (zk337, 1, (Option.some Jvm.ClassFile.FieldType.byte), []),
  (zk338, 2, (Option.some Jvm.ClassFile.FieldType.char), []),
  (zk339, 2, (Option.none : Option Jvm.ClassFile.FieldType), []),
  (zk340, 4, (Option.some Jvm.ClassFile.FieldType.int), []),
  (zk341, 1, (Option.some Jvm.ClassFile.FieldType.boolean), []),
  (zk342, 6, (Option.some Jvm.ClassFile.FieldType.int), []),
  (zk343, 2, (Option.some Jvm.ClassFile.FieldType.char), []),
  (zk344, 3, (Option.some Jvm.ClassFile.FieldType.int), []),
  (zk345, 7, ret, [])]
noncomputable def zMl : List (List zM) := [zMl0, zMl1, zMl2, zMl3, zMl4, zMl5, zMl6, zMl7, zMl8, zMl9, zMl10, zMl11, zMl12, zMl13, zMl14, zMl15, zMl16, zMl17, zMl18, zMl19, zMl20, zMl21]
noncomputable def zP (M : Nat) : Option zM := match zMl[M / 16]? with
  | some r => r[M % 16]?
  | none => none
noncomputable def zYl0 : List (Nat × String × String × Nat × List (Nat × Nat × Nat × Nat)) := [(0, "<init>", "()V", 1201, []),
  (0, "keepAct", "()V", 3013, []),
  (0, "takeBackAct", "()V", 3166, []),
  (0, "copyFrom", "(LTemperDowns$Book;)V", 3196, []),
  (0, "begin", "(LTemperDowns$Scene;)V", 5045, []),
  (0, "addSight", "(IIZ)V", 6132, []),
  (1, "<init>", "(LTemperDowns$Downs;LTemperDowns$Scene;)V", 2139, []),
  (1, "whiteByBoys", "(III)I", 6199, []),
  (1, "play", "(II)V", 6220, []),
  (1, "choose", "(II)V", 6224, []),
  (1, "lossOf", "(I)I", 6229, []),
  (1, "resting", "()I", 6235, []),
  (1, "rests", "(I)Z", 6239, []),
  (1, "firstResting", "()I", 7003, []),
  (1, "live", "(II)V", 7014, []),
  (1, "draw", "(I)I", 7018, [])]
noncomputable def zYl1 : List (Nat × String × String × Nat × List (Nat × Nat × Nat × Nat)) := [(1, "treadDrawn", "()V", 7023, []),
  (2, "<init>", "(LTemperDowns$Land;)V", 2003, []),
  (2, "passDay", "(LTemperDowns$Scene;)V", 3020, []),
  (2, "livePersonsDay", "(LTemperDowns$Scene;I)V", 3024, []),
  (2, "riseOf", "(LTemperDowns$Scene;I)I", 3032, []),
  (2, "goOut", "(LTemperDowns$Scene;I)Z", 3074, []),
  (2, "nearestWhite", "(LTemperDowns$Scene;I)I", 3078, []),
  (2, "ripe", "(LTemperDowns$Scene;)I", 3106, []),
  (2, "link", "(LTemperDowns$Scene;)V", 3110, []),
  (2, "reaches", "(LTemperDowns$Scene;II)Z", 3114, []),
  (2, "isRipe", "(LTemperDowns$Scene;I)Z", 3122, []),
  (2, "burst", "(LTemperDowns$Scene;I)I", 3136, []),
  (2, "chain", "(II)I", 3144, []),
  (2, "heardOf", "(LTemperDowns$Scene;II)I", 3148, []),
  (2, "whites", "(LTemperDowns$Scene;)I", 5057, []),
  (2, "heldByAll", "(LTemperDowns$Scene;)I", 5062, [])]
noncomputable def zYl2 : List (Nat × String × String × Nat × List (Nat × Nat × Nat × Nat)) := [(2, "temperOfAll", "(LTemperDowns$Scene;)I", 5066, []),
  (2, "shoutedByAll", "(LTemperDowns$Scene;)I", 5070, []),
  (2, "ownedBy", "(LTemperDowns$Scene;I)I", 5127, []),
  (2, "setOffBy", "(LTemperDowns$Scene;I)I", 5154, []),
  (2, "hearers", "(LTemperDowns$Scene;I)I", 5158, []),
  (2, "crossest", "(LTemperDowns$Scene;)I", 6013, []),
  (2, "fullest", "(LTemperDowns$Scene;I)I", 6205, []),
  (2, "over", "(LTemperDowns$Scene;I)I", 7038, []),
  (2, "nearestBall", "(LTemperDowns$Scene;I)I", 7042, []),
  (3, "<init>", "(LTemperDowns$Downs;LTemperDowns$Scene;)V", 2030, []),
  (3, "firstToBurst", "()I", 3174, []),
  (3, "firstDay", "(II)I", 3178, []),
  (3, "behind", "(I)LTemperDowns$Scene;", 5222, []),
  (3, "bursts", "(I)I", 6008, []),
  (3, "calmDays", "(I)I", 7060, []),
  (3, "outstayed", "(II)I", 7072, [])]
noncomputable def zYl3 : List (Nat × String × String × Nat × List (Nat × Nat × Nat × Nat)) := [(4, "<init>", "(LTemperDowns$Downs;LTemperDowns$Book;)V", 2104, []),
  (4, "isSoAnyway", "()Z", 6143, []),
  (4, "lastDay", "()I", 6148, []),
  (4, "agrees", "(I)Z", 6153, []),
  (4, "agreesOn", "(I)Z", 6158, []),
  (4, "search", "(I)V", 6163, []),
  (4, "note", "(II)V", 6169, []),
  (4, "mostUnlike", "()I", 6181, []),
  (4, "unlikeIn", "(I)I", 6185, []),
  (5, "<init>", "()V", 1039, []),
  (5, "clear", "()V", 1058, []),
  (5, "measure", "(II)V", 1066, []),
  (5, "far", "(II)I", 3090, []),
  (5, "copyFrom", "(LTemperDowns$Land;)V", 5035, []),
  (6, "<init>", "(LTemperDowns$Downs;LTemperDowns$Scene;)V", 2048, []),
  (6, "allAtOnce", "()I", 5074, [])]
noncomputable def zYl4 : List (Nat × String × String × Nat × List (Nat × Nat × Nat × Nat)) := [(6, "together", "(I)I", 5091, []),
  (6, "guardsBetween", "(II)I", 6024, []),
  (6, "bestCellFor", "(I)I", 6036, []),
  (6, "homesInReach", "(II)I", 6041, []),
  (6, "stepsBetween", "(II)I", 6055, []),
  (6, "isBarred", "(I)Z", 6059, []),
  (6, "walkBackFrom", "(II)V", 6064, []),
  (6, "firstStep", "(II)I", 6068, []),
  (7, "<init>", "(LTemperDowns$Land;LTemperDowns$Scene;)V", 2073, []),
  (7, "choose", "()V", 6080, []),
  (7, "sortPeople", "()V", 6084, []),
  (7, "sortBalls", "()V", 6089, []),
  (7, "crossPeople", "()I", 6093, []),
  (7, "whiteBalls", "()I", 6097, []),
  (7, "bestOf", "(II)I", 6102, []),
  (7, "worthOf", "(I)I", 6106, [])]
noncomputable def zYl5 : List (Nat × String × String × Nat × List (Nat × Nat × Nat × Nat)) := [(7, "firstFor", "(IIII)I", 6110, []),
  (7, "take", "(II)V", 6114, []),
  (8, "<init>", "([I)V", 1136, []),
  (8, "readText", "(I)I", 4040, []),
  (8, "nextToken", "()V", 4047, []),
  (8, "isLetter", "(I)Z", 4050, []),
  (8, "isDigit", "(I)Z", 4053, []),
  (8, "isWord", "(Ljava/lang/String;)Z", 4142, []),
  (8, "readDowns", "()Z", 4167, []),
  (8, "readNumber", "(II)Z", 4171, []),
  (8, "fail", "(I)Z", 4175, []),
  (8, "readSign", "(C)Z", 4180, []),
  (8, "isSign", "(C)Z", 4184, []),
  (8, "readLine", "()Z", 4188, []),
  (8, "readPerson", "()Z", 4193, []),
  (8, "readCell", "()Z", 4197, [])]
noncomputable def zYl6 : List (Nat × String × String × Nat × List (Nat × Nat × Nat × Nat)) := [(8, "readBall", "()Z", 4207, []),
  (8, "readRule", "(LTemperDowns$Rule;)Z", 4218, []),
  (8, "readExpr", "(I)Z", 4223, []),
  (8, "readAnd", "(I)Z", 4227, []),
  (8, "readNot", "(I)Z", 4231, []),
  (8, "readTest", "(I)Z", 4236, []),
  (8, "readSum", "(I)Z", 5000, []),
  (8, "readProduct", "(I)Z", 5004, []),
  (8, "readPart", "(I)Z", 5008, []),
  (8, "valueOfPerson", "()I", 5016, []),
  (8, "valueOfBall", "()I", 5025, []),
  (9, "<init>", "()V", 1045, []),
  (9, "clear", "()V", 1062, []),
  (9, "isTold", "()Z", 3036, []),
  (9, "worth", "([I[I)I", 3053, []),
  (9, "valueAt", "([II)I", 3056, [])]
noncomputable def zYl7 : List (Nat × String × String × Nat × List (Nat × Nat × Nat × Nat)) := [(9, "join", "(III)I", 3059, []),
  (9, "add", "(I)V", 5012, []),
  (9, "copyFrom", "(LTemperDowns$Rule;)V", 5040, []),
  (10, "<init>", "()V", 1144, []),
  (10, "clear", "()V", 1208, []),
  (10, "day", "()I", 3005, []),
  (10, "temperOf", "(I)I", 3028, []),
  (10, "mildOf", "(I)I", 3040, []),
  (10, "shoutedBy", "(I)I", 3044, []),
  (10, "heardBy", "(I)I", 3048, []),
  (10, "setTemper", "(II)V", 3069, []),
  (10, "isWhite", "(I)Z", 3082, []),
  (10, "cellOf", "(I)I", 3086, []),
  (10, "fill", "(III)V", 3094, []),
  (10, "shout", "(I)V", 3098, []),
  (10, "growOld", "(I)V", 3102, [])]
noncomputable def zYl8 : List (Nat × String × String × Nat × List (Nat × Nat × Nat × Nat)) := [(10, "heldIn", "(I)I", 3118, []),
  (10, "ageOf", "(I)I", 3126, []),
  (10, "guards", "()I", 3140, []),
  (10, "hear", "(II)V", 3152, []),
  (10, "nextDay", "()V", 3158, []),
  (10, "copyFrom", "(LTemperDowns$Scene;)V", 3182, []),
  (10, "setMild", "(II)V", 4201, []),
  (10, "setCell", "(II)V", 4211, []),
  (10, "isLoose", "(I)Z", 5081, []),
  (10, "isGuarded", "(I)Z", 5086, []),
  (10, "ownerOf", "(I)I", 5131, []),
  (10, "setGuards", "(I)V", 5193, []),
  (11, "<init>", "()V", 1031, []),
  (11, "feed", "(IIIII)I", 2229, []),
  (11, "append", "(I)V", 2233, []),
  (11, "fault", "()I", 2237, [])]
noncomputable def zYl9 : List (Nat × String × String × Nat × List (Nat × Nat × Nat × Nat)) := [(11, "days", "(I)I", 3001, []),
  (11, "refuse", "(I)I", 3009, []),
  (11, "undo", "()I", 3162, []),
  (11, "first", "()I", 3170, []),
  (11, "forget", "()V", 3188, []),
  (11, "image", "()V", 3192, []),
  (11, "restore", "()Z", 3201, []),
  (11, "county", "(I)I", 3209, []),
  (11, "count", "(I)I", 5053, []),
  (11, "person", "(II)I", 5114, []),
  (11, "needPerson", "(I)V", 5118, []),
  (11, "ball", "(II)I", 5140, []),
  (11, "needBall", "(I)V", 5144, []),
  (11, "tread", "(I)I", 5166, []),
  (11, "carry", "(II)I", 5176, []),
  (11, "needCell", "(I)V", 5180, [])]
noncomputable def zYl10 : List (Nat × String × String × Nat × List (Nat × Nat × Nat × Nat)) := [(11, "guard", "(IZ)Z", 5189, []),
  (11, "soothe", "(II)I", 5200, []),
  (11, "then", "(III)I", 5208, []),
  (11, "needWhat", "(II)V", 5212, []),
  (11, "needDays", "(II)V", 5217, []),
  (11, "mood", "(III)I", 5229, []),
  (11, "off", "(I)I", 5236, []),
  (11, "later", "(II)I", 6004, []),
  (11, "toGuard", "(II)I", 6020, []),
  (11, "fire", "(II)I", 6032, []),
  (11, "pram", "(III)I", 6051, []),
  (11, "putBy", "(I)I", 6076, []),
  (11, "put", "(I)I", 6121, []),
  (11, "see", "(IIZ)I", 6128, []),
  (11, "milder", "(I)I", 6139, []),
  (11, "look", "(I)I", 6177, [])]
noncomputable def zYl11 : List (Nat × String × String × Nat × List (Nat × Nat × Nat × Nat)) := [(11, "boys", "(III)I", 6194, []),
  (11, "game", "(III)I", 6215, []),
  (11, "years", "(III)I", 7010, []),
  (11, "cell", "(II)I", 7034, []),
  (11, "when", "(II)I", 7049, []),
  (11, "ahead", "(II)I", 7056, []),
  (11, "stays", "(II)I", 7068, []),
  (12, "<init>", "()V", 7078, []),
  (12, "thrown", "()I", 8037, []),
  (12, "feed", "(IIIII)I", 8041, []),
  (12, "lays", "(I)V", 8045, []),
  (12, "county", "(I)I", 8049, []),
  (12, "right", "(ZI)Z", 8053, []),
  (12, "goes", "()V", 8057, []),
  (12, "byteAt", "(I)I", 8061, []),
  (12, "isLetter", "(I)Z", 8064, [])]
noncomputable def zYl12 : List (Nat × String × String × Nat × List (Nat × Nat × Nat × Nat)) := [(12, "isDigit", "(I)Z", 8067, []),
  (12, "knownWord", "()I", 8071, []),
  (12, "letters", "(I)J", 8074, []),
  (12, "spelled", "(IIIIII)J", 8077, []),
  (12, "number", "(II)I", 8082, []),
  (12, "isGood", "()Z", 8086, []),
  (12, "wrong", "(I)V", 8090, []),
  (12, "isSign", "(I)Z", 8094, []),
  (12, "need", "(Z)V", 8098, []),
  (12, "line", "()V", 8102, []),
  (12, "begins", "(ZZ)Z", 8106, []),
  (12, "readsPerson", "()V", 8110, []),
  (12, "cellHere", "()I", 8114, []),
  (12, "readsBall", "()V", 8118, []),
  (12, "expression", "(II)V", 8122, []),
  (12, "deeper", "()V", 8126, [])]
noncomputable def zYl13 : List (Nat × String × String × Nat × List (Nat × Nat × Nat × Nat)) := [(12, "operand", "(Z)V", 8130, []),
  (12, "waitsFor", "(I)V", 8134, []),
  (12, "part", "()V", 8138, []),
  (12, "puts", "(I)V", 8142, []),
  (12, "drops", "(I)V", 8146, []),
  (12, "isOpen", "(I)Z", 8149, []),
  (12, "strength", "(I)I", 8152, []),
  (12, "isOpened", "()Z", 8156, []),
  (12, "closes", "()V", 8160, []),
  (12, "copies", "([I[I)V", 8164, []),
  (12, "fault", "()I", 8168, []),
  (12, "undo", "()I", 8172, []),
  (12, "count", "(I)I", 8176, []),
  (12, "within", "(III)Z", 8179, []),
  (12, "heldOnes", "(I)I", 8183, []),
  (12, "isWhite", "(II)Z", 8187, [])]
noncomputable def zYl14 : List (Nat × String × String × Nat × List (Nat × Nat × Nat × Nat)) := [(12, "guardedOnes", "(I)I", 8191, []),
  (12, "sumOf", "(III)I", 8195, []),
  (12, "allAtOnce", "()I", 8199, []),
  (12, "free", "(I)I", 8203, []),
  (12, "bits", "(I)I", 8206, []),
  (12, "setOff", "(III)I", 8210, []),
  (12, "isIn", "(III)Z", 8214, []),
  (12, "farOf", "(II)I", 8218, []),
  (12, "apart", "(II)I", 8221, []),
  (12, "person", "(II)I", 8225, []),
  (12, "isPerson", "(I)Z", 8229, []),
  (12, "isWhat", "(II)Z", 8233, []),
  (12, "ownOnes", "(II)I", 8237, []),
  (12, "ballFor", "(II)I", 9001, []),
  (12, "ball", "(II)I", 9005, []),
  (12, "isBall", "(I)Z", 9009, [])]
noncomputable def zYl15 : List (Nat × String × String × Nat × List (Nat × Nat × Nat × Nat)) := [(12, "setOffBy", "(I)I", 9013, []),
  (12, "hearers", "(I)I", 9017, []),
  (12, "days", "(I)I", 9021, []),
  (12, "refuses", "(I)I", 9025, []),
  (12, "keeps", "()V", 9029, []),
  (12, "dayOf", "(I)V", 9033, []),
  (12, "begins0", "()V", 9037, []),
  (12, "dayGoes", "(I)V", 9041, []),
  (12, "rises", "(II)V", 9045, []),
  (12, "risesBy", "(II)I", 9049, []),
  (12, "reckons", "(I)I", 9053, []),
  (12, "works", "(III)I", 9056, []),
  (12, "bounded", "(III)I", 9059, []),
  (12, "lesser", "(II)I", 9062, []),
  (12, "goesOut", "(II)Z", 9066, []),
  (12, "bursts", "(II)Z", 9070, [])]
noncomputable def zYl16 : List (Nat × String × String × Nat × List (Nat × Nat × Nat × Nat)) := [(12, "goOff", "(II)I", 9074, []),
  (12, "tread", "(I)I", 9078, []),
  (12, "mayTread", "(II)Z", 9082, []),
  (12, "carry", "(II)I", 9086, []),
  (12, "isCell", "(I)Z", 9090, []),
  (12, "guard", "(IZ)Z", 9094, []),
  (12, "soothe", "(II)I", 9098, []),
  (12, "then", "(III)I", 9102, []),
  (12, "isSoon", "(III)Z", 9106, []),
  (12, "goesTo", "(I)V", 9110, []),
  (12, "tries", "()V", 9114, []),
  (12, "daysGo", "(I)V", 9118, []),
  (12, "mood", "(III)I", 9122, []),
  (12, "off", "(I)I", 9126, []),
  (12, "first", "()I", 9130, []),
  (12, "lowest", "(I)I", 9133, [])]
noncomputable def zYl17 : List (Nat × String × String × Nat × List (Nat × Nat × Nat × Nat)) := [(12, "later", "(II)I", 9137, []),
  (12, "when", "(II)I", 9141, []),
  (12, "ahead", "(II)I", 9145, []),
  (12, "stays", "(II)I", 9149, []),
  (12, "toGuard", "(II)I", 9153, []),
  (12, "fire", "(II)I", 9157, []),
  (12, "homesBy", "(II)I", 9161, []),
  (12, "cell", "(II)I", 9165, []),
  (12, "pram", "(III)I", 9169, []),
  (12, "laysFar", "(I)V", 9173, []),
  (12, "isShut", "(I)Z", 9177, []),
  (12, "beside", "(II)I", 9181, []),
  (12, "putBy", "(I)I", 9185, []),
  (12, "laysTaking", "()V", 9189, []),
  (12, "laysPuts", "()V", 9193, []),
  (12, "canPut", "(III)Z", 9197, [])]
noncomputable def zYl18 : List (Nat × String × String × Nat × List (Nat × Nat × Nat × Nat)) := [(12, "puts0", "(III)I", 9201, []),
  (12, "put", "(I)I", 9205, []),
  (12, "see", "(IIZ)I", 9209, []),
  (12, "forget", "()V", 9213, []),
  (12, "milder", "(I)I", 9217, []),
  (12, "isSeen", "()Z", 9221, []),
  (12, "isGuess", "(I)Z", 9225, []),
  (12, "look", "(I)I", 9229, []),
  (12, "boys", "(III)I", 9233, []),
  (12, "treads", "()V", 9237, []),
  (12, "game", "(III)I", 10001, []),
  (12, "gains", "(IIII)I", 10005, []),
  (12, "years", "(III)I", 10009, []),
  (12, "happens", "()V", 10013, []),
  (12, "draw", "(I)I", 10017, []),
  (12, "image", "()V", 10022, [])]
noncomputable def zYl19 : List (Nat × String × String × Nat × List (Nat × Nat × Nat × Nat)) := [(12, "restore", "()Z", 10026, []),
  (13, "county", "(LTemperDowns;I[J)I", 3204, [(0, 9, 12, 13)]),
  (13, "count", "(LTemperDowns;I[J)I", 5048, [(0, 9, 12, 18)]),
  (13, "person", "(LTemperDowns;II[J)I", 5110, [(0, 10, 13, 18)]),
  (13, "ball", "(LTemperDowns;II[J)I", 5136, [(0, 10, 13, 18)]),
  (13, "tread", "(LTemperDowns;I[J)I", 5162, [(0, 9, 12, 18)]),
  (13, "carry", "(LTemperDowns;II[J)I", 5172, [(0, 10, 13, 18)]),
  (13, "guard", "(LTemperDowns;IZ[J)I", 5185, [(0, 17, 20, 18)]),
  (13, "soothe", "(LTemperDowns;II[J)I", 5196, [(0, 10, 13, 18)]),
  (13, "then", "(LTemperDowns;III[J)I", 5204, [(0, 12, 15, 18), (0, 12, 19, 13)]),
  (13, "mood", "(LTemperDowns;III[J)I", 5225, [(0, 12, 15, 18), (0, 12, 19, 13)]),
  (13, "off", "(LTemperDowns;I[J)I", 5232, [(0, 9, 12, 18)]),
  (13, "later", "(LTemperDowns;II[J)I", 6000, [(0, 10, 13, 18), (0, 10, 17, 13)]),
  (13, "toGuard", "(LTemperDowns;II[J)I", 6016, [(0, 10, 13, 18)]),
  (13, "fire", "(LTemperDowns;II[J)I", 6028, [(0, 10, 13, 18)]),
  (13, "pram", "(LTemperDowns;III[J)I", 6047, [(0, 12, 15, 18)])]
noncomputable def zYl20 : List (Nat × String × String × Nat × List (Nat × Nat × Nat × Nat)) := [(13, "putBy", "(LTemperDowns;I[J)I", 6072, [(0, 9, 12, 18)]),
  (13, "put", "(LTemperDowns;I[J)I", 6117, [(0, 9, 12, 18)]),
  (13, "see", "(LTemperDowns;IIZ[J)I", 6124, [(0, 12, 15, 18)]),
  (13, "milder", "(LTemperDowns;I[J)I", 6135, [(0, 9, 12, 18)]),
  (13, "look", "(LTemperDowns;I[J)I", 6173, [(0, 9, 12, 18)]),
  (13, "boys", "(LTemperDowns;III[J)I", 6190, [(0, 12, 15, 18), (0, 12, 19, 13)]),
  (13, "game", "(LTemperDowns;III[J)I", 6211, [(0, 12, 15, 18), (0, 12, 19, 13)]),
  (13, "years", "(LTemperDowns;III[J)I", 7006, [(0, 12, 15, 18), (0, 12, 19, 13)]),
  (13, "cell", "(LTemperDowns;II[J)I", 7030, [(0, 10, 13, 18)]),
  (13, "when", "(LTemperDowns;II[J)I", 7045, [(0, 10, 13, 18)]),
  (13, "ahead", "(LTemperDowns;II[J)I", 7052, [(0, 10, 13, 18), (0, 10, 17, 13)]),
  (13, "stays", "(LTemperDowns;II[J)I", 7064, [(0, 10, 13, 18), (0, 10, 17, 13)]),
  (14, "bitCount", "(I)I", 3129, []),
  (15, "indexOf", "(I)I", 4059, []),
  (15, "indexOf", "(II)I", 4063, []),
  (15, "isLatin1", "()Z", 4067, [])]
noncomputable def zYl21 : List (Nat × String × String × Nat × List (Nat × Nat × Nat × Nat)) := [(15, "length", "()I", 4073, []),
  (15, "coder", "()B", 4077, []),
  (15, "charAt", "(I)C", 4147, []),
  (15, "checkIndex", "(II)V", 4153, []),
  (16, "indexOf", "([BIII)I", 4080, []),
  (16, "canEncode", "(I)Z", 4083, []),
  (16, "indexOfChar", "([BIII)I", 4088, []),
  (16, "charAt", "([BI)C", 4150, []),
  (17, "checkIndex", "(IILjava/util/function/BiFunction;)I", 4156, []),
  (13, "law", "([I)Z", 11000, [])]
noncomputable def zYl : List (List (Nat × String × String × Nat × List (Nat × Nat × Nat × Nat))) := [zYl0, zYl1, zYl2, zYl3, zYl4, zYl5, zYl6, zYl7, zYl8, zYl9, zYl10, zYl11, zYl12, zYl13, zYl14, zYl15, zYl16, zYl17, zYl18, zYl19, zYl20, zYl21]
noncomputable def zMc : List (List (Nat × Nat × Nat × Nat × Nat × Nat)) := [[(2, 1201, 1006, 1200, 0, 0), (1, 3013, 1006, 3011, 3012, 0), (1, 3166, 1006, 3164, 3165, 0), (1, 3196, 1006, 3194, 3195, 1), (1, 5045, 1006, 5043, 5044, 1), (1, 6132, 1006, 6130, 6131, 3), (2, 2139, 1012, 2138, 0, 2), (1, 6199, 1012, 6197, 6198, 3), (1, 6220, 1012, 6218, 6219, 2), (1, 6224, 1012, 6223, 24001, 2), (1, 6229, 1012, 6228, 24002, 1), (1, 6235, 1012, 6233, 6234, 0), (1, 6239, 1012, 6238, 24003, 1), (1, 7003, 1012, 7001, 7002, 0), (1, 7014, 1012, 7012, 7013, 2), (1, 7018, 1012, 7017, 24004, 1)],
  [(1, 7023, 1012, 7022, 24005, 0), (2, 2003, 1007, 2002, 0, 1), (1, 3020, 1007, 3018, 3019, 1), (1, 3024, 1007, 3023, 21002, 2), (1, 3032, 1007, 3031, 21003, 2), (1, 3074, 1007, 3072, 3073, 2), (1, 3078, 1007, 3076, 3077, 2), (1, 3106, 1007, 3105, 21004, 1), (1, 3110, 1007, 3108, 3109, 1), (1, 3114, 1007, 3112, 3113, 3), (1, 3122, 1007, 3121, 21005, 2), (1, 3136, 1007, 3134, 3135, 2), (1, 3144, 1007, 3142, 3143, 2), (1, 3148, 1007, 3147, 21006, 3), (1, 5057, 1007, 5055, 5056, 1), (1, 5062, 1007, 5060, 5061, 1)],
  [(1, 5066, 1007, 5064, 5065, 1), (1, 5070, 1007, 5068, 5069, 1), (1, 5127, 1007, 5125, 5126, 2), (1, 5154, 1007, 5152, 5153, 2), (1, 5158, 1007, 5156, 5157, 2), (1, 6013, 1007, 6011, 6012, 1), (1, 6205, 1007, 6203, 6204, 2), (1, 7038, 1007, 7036, 7037, 2), (1, 7042, 1007, 7040, 7041, 2), (2, 2030, 1008, 2029, 0, 2), (1, 3174, 1008, 3172, 3173, 0), (1, 3178, 1008, 3176, 3177, 2), (1, 5222, 1008, 5220, 5221, 1), (1, 6008, 1008, 6006, 6007, 1), (1, 7060, 1008, 7058, 7059, 1), (1, 7072, 1008, 7070, 7071, 2)],
  [(2, 2104, 1011, 2103, 0, 2), (1, 6143, 1011, 6141, 6142, 0), (1, 6148, 1011, 6147, 23013, 0), (1, 6153, 1011, 6152, 23014, 1), (1, 6158, 1011, 6157, 23015, 1), (1, 6163, 1011, 6161, 6162, 1), (1, 6169, 1011, 6168, 24000, 2), (1, 6181, 1011, 6179, 6180, 0), (1, 6185, 1011, 6183, 6184, 1), (2, 1039, 1002, 1038, 0, 0), (1, 1058, 1002, 1056, 1057, 0), (1, 1066, 1002, 1064, 1065, 2), (1, 3090, 1002, 3088, 3089, 2), (1, 5035, 1002, 5033, 5034, 1), (2, 2048, 1009, 2047, 0, 2), (1, 5074, 1009, 5072, 5073, 0)],
  [(1, 5091, 1009, 5090, 22013, 1), (1, 6024, 1009, 6022, 6023, 2), (1, 6036, 1009, 6034, 6035, 1), (1, 6041, 1009, 6039, 6040, 2), (1, 6055, 1009, 6053, 6054, 2), (1, 6059, 1009, 6058, 23003, 1), (1, 6064, 1009, 6063, 23004, 2), (1, 6068, 1009, 6066, 6067, 2), (2, 2073, 1010, 2072, 0, 2), (1, 6080, 1010, 6078, 6079, 0), (1, 6084, 1010, 6083, 23005, 0), (1, 6089, 1010, 6088, 23006, 0), (1, 6093, 1010, 6092, 23007, 0), (1, 6097, 1010, 6096, 23008, 0), (1, 6102, 1010, 6101, 23009, 2), (1, 6106, 1010, 6105, 23010, 1)],
  [(1, 6110, 1010, 6109, 23011, 4), (1, 6114, 1010, 6113, 23012, 2), (2, 1136, 1004, 1135, 0, 1), (1, 4040, 1004, 4038, 4039, 1), (1, 4047, 1004, 4046, 21008, 0), (0, 4050, 1004, 4049, 0, 1), (0, 4053, 1004, 4052, 0, 1), (1, 4142, 1004, 4141, 21009, 1), (1, 4167, 1004, 4166, 21010, 0), (1, 4171, 1004, 4170, 21011, 2), (1, 4175, 1004, 4174, 21012, 1), (1, 4180, 1004, 4179, 21013, 1), (1, 4184, 1004, 4183, 21014, 1), (1, 4188, 1004, 4187, 21015, 0), (1, 4193, 1004, 4192, 22000, 0), (1, 4197, 1004, 4196, 22001, 0)],
  [(1, 4207, 1004, 4206, 22002, 0), (1, 4218, 1004, 4217, 22003, 1), (1, 4223, 1004, 4222, 22004, 1), (1, 4227, 1004, 4226, 22005, 1), (1, 4231, 1004, 4230, 22006, 1), (1, 4236, 1004, 4235, 22007, 1), (1, 5000, 1004, 4239, 22008, 1), (1, 5004, 1004, 5003, 22009, 1), (1, 5008, 1004, 5007, 22010, 1), (1, 5016, 1004, 5015, 22011, 0), (1, 5025, 1004, 5024, 22012, 0), (2, 1045, 1003, 1044, 0, 0), (1, 1062, 1003, 1060, 1061, 0), (1, 3036, 1003, 3034, 3035, 0), (1, 3053, 1003, 3051, 3052, 2), (0, 3056, 1003, 3055, 0, 2)],
  [(0, 3059, 1003, 3058, 0, 3), (1, 5012, 1003, 5010, 5011, 1), (1, 5040, 1003, 5038, 5039, 1), (2, 1144, 1005, 1143, 0, 0), (1, 1208, 1005, 1206, 1207, 0), (1, 3005, 1005, 3003, 3004, 0), (1, 3028, 1005, 3026, 3027, 1), (1, 3040, 1005, 3038, 3039, 1), (1, 3044, 1005, 3042, 3043, 1), (1, 3048, 1005, 3046, 3047, 1), (1, 3069, 1005, 3067, 3068, 2), (1, 3082, 1005, 3080, 3081, 1), (1, 3086, 1005, 3084, 3085, 1), (1, 3094, 1005, 3092, 3093, 3), (1, 3098, 1005, 3096, 3097, 1), (1, 3102, 1005, 3100, 3101, 1)],
  [(1, 3118, 1005, 3116, 3117, 1), (1, 3126, 1005, 3124, 3125, 1), (1, 3140, 1005, 3138, 3139, 0), (1, 3152, 1005, 3150, 3151, 2), (1, 3158, 1005, 3156, 3157, 0), (1, 3182, 1005, 3180, 3181, 1), (1, 4201, 1005, 4199, 4200, 2), (1, 4211, 1005, 4209, 4210, 2), (1, 5081, 1005, 5079, 5080, 1), (1, 5086, 1005, 5084, 5085, 1), (1, 5131, 1005, 5129, 5130, 1), (1, 5193, 1005, 5191, 5192, 1), (2, 1031, 1001, 1030, 0, 0), (1, 2229, 1001, 2227, 2228, 5), (1, 2233, 1001, 2232, 21000, 1), (1, 2237, 1001, 2235, 2236, 0)],
  [(1, 3001, 1001, 2239, 3000, 1), (1, 3009, 1001, 3008, 21001, 1), (1, 3162, 1001, 3160, 3161, 0), (1, 3170, 1001, 3168, 3169, 0), (1, 3188, 1001, 3186, 3187, 0), (1, 3192, 1001, 3190, 3191, 0), (1, 3201, 1001, 3199, 3200, 0), (1, 3209, 1001, 3207, 3208, 1), (1, 5053, 1001, 5051, 5052, 1), (1, 5114, 1001, 5112, 5113, 2), (1, 5118, 1001, 5117, 22014, 1), (1, 5140, 1001, 5138, 5139, 2), (1, 5144, 1001, 5143, 22015, 1), (1, 5166, 1001, 5164, 5165, 1), (1, 5176, 1001, 5174, 5175, 2), (1, 5180, 1001, 5179, 23000, 1)],
  [(1, 5189, 1001, 5187, 5188, 2), (1, 5200, 1001, 5198, 5199, 2), (1, 5208, 1001, 5206, 5207, 3), (1, 5212, 1001, 5211, 23001, 2), (1, 5217, 1001, 5216, 23002, 2), (1, 5229, 1001, 5227, 5228, 3), (1, 5236, 1001, 5234, 5235, 1), (1, 6004, 1001, 6002, 6003, 2), (1, 6020, 1001, 6018, 6019, 2), (1, 6032, 1001, 6030, 6031, 2), (1, 6051, 1001, 6049, 6050, 3), (1, 6076, 1001, 6074, 6075, 1), (1, 6121, 1001, 6119, 6120, 1), (1, 6128, 1001, 6126, 6127, 3), (1, 6139, 1001, 6137, 6138, 1), (1, 6177, 1001, 6175, 6176, 1)],
  [(1, 6194, 1001, 6192, 6193, 3), (1, 6215, 1001, 6213, 6214, 3), (1, 7010, 1001, 7008, 7009, 3), (1, 7034, 1001, 7032, 7033, 2), (1, 7049, 1001, 7047, 7048, 2), (1, 7056, 1001, 7054, 7055, 2), (1, 7068, 1001, 7066, 7067, 2), (2, 7078, 1013, 7077, 0, 0), (1, 8037, 1013, 8035, 8036, 0), (1, 8041, 1013, 8039, 8040, 5), (1, 8045, 1013, 8044, 24006, 1), (1, 8049, 1013, 8047, 8048, 1), (1, 8053, 1013, 8052, 24007, 2), (1, 8057, 1013, 8056, 24008, 0), (1, 8061, 1013, 8060, 24009, 1), (0, 8064, 1013, 8063, 0, 1)],
  [(0, 8067, 1013, 8066, 0, 1), (1, 8071, 1013, 8070, 24010, 0), (0, 8074, 1013, 8073, 0, 1), (0, 8077, 1013, 8076, 0, 6), (1, 8082, 1013, 8081, 24011, 2), (1, 8086, 1013, 8085, 24012, 0), (1, 8090, 1013, 8089, 24013, 1), (1, 8094, 1013, 8093, 24014, 1), (1, 8098, 1013, 8097, 24015, 1), (1, 8102, 1013, 8101, 25000, 0), (1, 8106, 1013, 8105, 25001, 2), (1, 8110, 1013, 8109, 25002, 0), (1, 8114, 1013, 8113, 25003, 0), (1, 8118, 1013, 8117, 25004, 0), (1, 8122, 1013, 8121, 25005, 2), (1, 8126, 1013, 8125, 25006, 0)],
  [(1, 8130, 1013, 8129, 25007, 1), (1, 8134, 1013, 8133, 25008, 1), (1, 8138, 1013, 8137, 25009, 0), (1, 8142, 1013, 8141, 25010, 1), (1, 8146, 1013, 8145, 25011, 1), (0, 8149, 1013, 8148, 0, 1), (0, 8152, 1013, 8151, 0, 1), (1, 8156, 1013, 8155, 25012, 0), (1, 8160, 1013, 8159, 25013, 0), (1, 8164, 1013, 8163, 25014, 2), (1, 8168, 1013, 8166, 8167, 0), (1, 8172, 1013, 8170, 8171, 0), (1, 8176, 1013, 8174, 8175, 1), (0, 8179, 1013, 8178, 0, 3), (1, 8183, 1013, 8182, 25015, 1), (1, 8187, 1013, 8186, 26000, 2)],
  [(1, 8191, 1013, 8190, 26001, 1), (1, 8195, 1013, 8194, 26002, 3), (1, 8199, 1013, 8198, 26003, 0), (1, 8203, 1013, 8202, 26004, 1), (0, 8206, 1013, 8205, 0, 1), (1, 8210, 1013, 8209, 26005, 3), (1, 8214, 1013, 8213, 26006, 3), (1, 8218, 1013, 8217, 26007, 2), (0, 8221, 1013, 8220, 0, 2), (1, 8225, 1013, 8223, 8224, 2), (1, 8229, 1013, 8228, 26008, 1), (1, 8233, 1013, 8232, 26009, 2), (1, 8237, 1013, 8236, 26010, 2), (1, 9001, 1013, 9000, 26011, 2), (1, 9005, 1013, 9003, 9004, 2), (1, 9009, 1013, 9008, 26012, 1)],
  [(1, 9013, 1013, 9012, 26013, 1), (1, 9017, 1013, 9016, 26014, 1), (1, 9021, 1013, 9019, 9020, 1), (1, 9025, 1013, 9024, 26015, 1), (1, 9029, 1013, 9028, 27000, 0), (1, 9033, 1013, 9032, 27001, 1), (1, 9037, 1013, 9036, 27002, 0), (1, 9041, 1013, 9040, 27003, 1), (1, 9045, 1013, 9044, 27004, 2), (1, 9049, 1013, 9048, 27005, 2), (1, 9053, 1013, 9052, 27006, 1), (0, 9056, 1013, 9055, 0, 3), (0, 9059, 1013, 9058, 0, 3), (0, 9062, 1013, 9061, 0, 2), (1, 9066, 1013, 9065, 27007, 2), (1, 9070, 1013, 9069, 27008, 2)],
  [(1, 9074, 1013, 9073, 27009, 2), (1, 9078, 1013, 9076, 9077, 1), (1, 9082, 1013, 9081, 27010, 2), (1, 9086, 1013, 9084, 9085, 2), (1, 9090, 1013, 9089, 27011, 1), (1, 9094, 1013, 9092, 9093, 2), (1, 9098, 1013, 9096, 9097, 2), (1, 9102, 1013, 9100, 9101, 3), (1, 9106, 1013, 9105, 27012, 3), (1, 9110, 1013, 9109, 27013, 1), (1, 9114, 1013, 9113, 27014, 0), (1, 9118, 1013, 9117, 27015, 1), (1, 9122, 1013, 9120, 9121, 3), (1, 9126, 1013, 9124, 9125, 1), (1, 9130, 1013, 9128, 9129, 0), (0, 9133, 1013, 9132, 0, 1)],
  [(1, 9137, 1013, 9135, 9136, 2), (1, 9141, 1013, 9139, 9140, 2), (1, 9145, 1013, 9143, 9144, 2), (1, 9149, 1013, 9147, 9148, 2), (1, 9153, 1013, 9151, 9152, 2), (1, 9157, 1013, 9155, 9156, 2), (1, 9161, 1013, 9160, 28000, 2), (1, 9165, 1013, 9163, 9164, 2), (1, 9169, 1013, 9167, 9168, 3), (1, 9173, 1013, 9172, 28001, 1), (1, 9177, 1013, 9176, 28002, 1), (1, 9181, 1013, 9180, 28003, 2), (1, 9185, 1013, 9183, 9184, 1), (1, 9189, 1013, 9188, 28004, 0), (1, 9193, 1013, 9192, 28005, 0), (1, 9197, 1013, 9196, 28006, 3)],
  [(1, 9201, 1013, 9200, 28007, 3), (1, 9205, 1013, 9203, 9204, 1), (1, 9209, 1013, 9207, 9208, 3), (1, 9213, 1013, 9211, 9212, 0), (1, 9217, 1013, 9215, 9216, 1), (1, 9221, 1013, 9220, 28008, 0), (1, 9225, 1013, 9224, 28009, 1), (1, 9229, 1013, 9227, 9228, 1), (1, 9233, 1013, 9231, 9232, 3), (1, 9237, 1013, 9236, 28010, 0), (1, 10001, 1013, 9239, 10000, 3), (1, 10005, 1013, 10004, 28011, 4), (1, 10009, 1013, 10007, 10008, 3), (1, 10013, 1013, 10012, 28012, 0), (1, 10017, 1013, 10016, 28013, 1), (1, 10022, 1013, 10020, 10021, 0)],
  [(1, 10026, 1013, 10024, 10025, 0), (0, 3204, 1000, 3203, 0, 3), (0, 5048, 1000, 5047, 0, 3), (0, 5110, 1000, 5109, 0, 4), (0, 5136, 1000, 5135, 0, 4), (0, 5162, 1000, 5161, 0, 3), (0, 5172, 1000, 5171, 0, 4), (0, 5185, 1000, 5184, 0, 4), (0, 5196, 1000, 5195, 0, 4), (0, 5204, 1000, 5203, 0, 5), (0, 5225, 1000, 5224, 0, 5), (0, 5232, 1000, 5231, 0, 3), (0, 6000, 1000, 5239, 0, 4), (0, 6016, 1000, 6015, 0, 4), (0, 6028, 1000, 6027, 0, 4), (0, 6047, 1000, 6046, 0, 5)],
  [(0, 6072, 1000, 6071, 0, 3), (0, 6117, 1000, 6116, 0, 3), (0, 6124, 1000, 6123, 0, 5), (0, 6135, 1000, 6134, 0, 3), (0, 6173, 1000, 6172, 0, 3), (0, 6190, 1000, 6189, 0, 5), (0, 6211, 1000, 6210, 0, 5), (0, 7006, 1000, 7005, 0, 5), (0, 7030, 1000, 7029, 0, 4), (0, 7045, 1000, 7044, 0, 4), (0, 7052, 1000, 7051, 0, 4), (0, 7064, 1000, 7063, 0, 4), (0, 3129, 1025, 3128, 0, 1), (1, 4059, 1019, 4057, 4058, 1), (1, 4063, 1019, 4061, 4062, 2), (1, 4067, 1019, 4065, 4066, 0)],
  [(1, 4073, 1019, 4071, 4072, 0), (1, 4077, 1019, 4075, 4076, 0), (1, 4147, 1019, 4145, 4146, 1), (0, 4153, 1019, 4152, 0, 2), (0, 4080, 1020, 4079, 0, 4), (0, 4083, 1020, 4082, 0, 1), (0, 4088, 1020, 4087, 0, 4), (0, 4150, 1020, 4149, 0, 2), (0, 4156, 1022, 4155, 0, 3), (3, 11000, 1000, 0, 0, 1)]]
/-- links of fields: class, place, class of the field, field, where the word stands -/
noncomputable def zFk0 : List (Nat × Nat × Nat × Nat × Nat) := [(0, 10, 0, 0, 1209), (0, 16, 0, 2, 1214), (0, 20, 0, 4, 1218), (0, 23, 0, 5, 1220), (0, 26, 0, 6, 1222), (0, 36, 0, 1, 1212), (0, 40, 0, 3, 1215), (0, 49, 10, 0, 1147), (1, 12, 1, 6, 2152), (1, 18, 1, 7, 2153), (1, 22, 1, 8, 2154), (1, 25, 1, 3, 2149), (1, 29, 2, 0, 2007), (1, 35, 1, 4, 2150), (1, 36, 1, 5, 2151), (1, 82, 1, 9, 2155), (1, 86, 1, 0, 2143), (1, 89, 1, 1, 2145), (1, 95, 5, 4, 1089), (1, 103, 5, 3, 1081), (1, 109, 2, 1, 2011), (1, 121, 1, 2, 2147), (2, 9, 2, 1, 2009), (2, 15, 2, 2, 2012), (2, 20, 2, 3, 2013), (2, 23, 2, 4, 2014), (2, 26, 2, 0, 2006), (2, 45, 5, 4, 1085), (2, 68, 5, 5, 1093), (2, 71, 5, 3, 1080), (2, 86, 5, 6, 1099), (2, 127, 5, 7, 1103), (2, 159, 5, 8, 1106), (3, 12, 3, 2, 2036), (3, 18, 3, 0, 2034), (3, 22, 3, 1, 2035), (3, 34, 2, 1, 2010), (4, 12, 4, 5, 2115), (4, 18, 4, 6, 2116), (4, 21, 4, 7, 2117)]
noncomputable def zFk1 : List (Nat × Nat × Nat × Nat × Nat) := [(4, 25, 4, 2, 2112), (4, 29, 2, 0, 2008), (4, 35, 4, 3, 2113), (4, 36, 4, 4, 2114), (4, 40, 0, 0, 1211), (4, 61, 4, 0, 2108), (4, 65, 4, 1, 2110), (4, 68, 5, 3, 1077), (4, 84, 5, 4, 1087), (4, 90, 0, 3, 1216), (4, 93, 0, 5, 1221), (4, 102, 0, 4, 1219), (4, 108, 0, 6, 1223), (5, 9, 5, 5, 1091), (5, 15, 5, 6, 1096), (5, 21, 5, 7, 1101), (5, 25, 5, 8, 1104), (5, 28, 5, 9, 1107), (5, 31, 5, 10, 1108), (5, 37, 5, 3, 1075), (5, 41, 5, 4, 1083), (5, 49, 5, 0, 1067), (5, 52, 5, 1, 1069), (5, 55, 5, 2, 1071), (6, 9, 6, 3, 2053), (6, 15, 6, 4, 2054), (6, 18, 6, 5, 2055), (6, 21, 6, 0, 2050), (6, 25, 2, 0, 2005), (6, 31, 6, 1, 2051), (6, 32, 6, 2, 2052), (6, 40, 5, 4, 1084), (6, 73, 5, 3, 1078), (6, 76, 5, 5, 1092), (6, 91, 5, 2, 1072), (7, 9, 7, 2, 2079), (7, 15, 7, 5, 2083), (7, 18, 7, 6, 2084), (7, 21, 7, 3, 2081), (7, 25, 7, 4, 2082)]
noncomputable def zFk2 : List (Nat × Nat × Nat × Nat × Nat) := [(7, 35, 7, 0, 2075), (7, 39, 7, 1, 2077), (7, 53, 5, 3, 1076), (7, 70, 5, 6, 1097), (7, 78, 5, 4, 1086), (8, 12, 8, 0, 1151), (8, 21, 8, 1, 1153), (8, 25, 5, 7, 1102), (8, 29, 8, 12, 1166), (8, 32, 8, 4, 1158), (8, 42, 8, 5, 1159), (8, 46, 8, 7, 1161), (8, 49, 8, 3, 1157), (8, 52, 8, 2, 1155), (8, 72, 8, 8, 1162), (8, 78, 8, 6, 1160), (8, 88, 8, 9, 1163), (8, 92, 8, 10, 1164), (8, 118, 8, 11, 1165), (8, 121, 5, 2, 1073), (8, 146, 8, 13, 1167), (8, 155, 5, 8, 1105), (8, 157, 5, 3, 1082), (8, 163, 5, 5, 1095), (8, 172, 5, 4, 1090), (8, 178, 5, 6, 1100), (9, 9, 9, 0, 1047), (9, 15, 9, 1, 1048), (10, 11, 10, 0, 1146), (11, 9, 11, 0, 2177), (11, 13, 11, 2, 2179), (11, 17, 11, 3, 2180), (11, 23, 11, 4, 2181), (11, 32, 11, 5, 2182), (11, 39, 11, 6, 2183), (11, 43, 11, 7, 2184), (11, 46, 0, 0, 1210), (11, 50, 11, 9, 2186), (11, 58, 11, 10, 2187), (11, 67, 11, 11, 2188)]
noncomputable def zFk3 : List (Nat × Nat × Nat × Nat × Nat) := [(11, 74, 11, 12, 2189), (11, 83, 11, 13, 2190), (11, 92, 11, 14, 2191), (11, 99, 11, 15, 2192), (11, 103, 11, 1, 2178), (11, 121, 8, 2, 1156), (11, 124, 8, 0, 1152), (11, 128, 8, 1, 1154), (11, 135, 11, 8, 2185), (11, 139, 5, 3, 1079), (11, 142, 5, 4, 1088), (11, 145, 5, 0, 1068), (11, 148, 5, 1, 1070), (11, 176, 0, 1, 1213), (11, 179, 0, 3, 1217), (11, 190, 5, 5, 1094), (11, 220, 5, 6, 1098), (11, 321, 7, 0, 2076), (11, 324, 7, 1, 2078), (11, 327, 7, 2, 2080), (11, 341, 4, 0, 2109), (11, 342, 4, 1, 2111), (11, 371, 1, 0, 2144), (11, 374, 1, 1, 2146), (11, 377, 1, 2, 2148), (11, 402, 5, 2, 1074), (12, 7, 12, 1, 7081), (12, 13, 12, 2, 7082), (12, 16, 12, 5, 7085), (12, 19, 12, 6, 7086), (12, 22, 12, 7, 7087), (12, 26, 12, 8, 7088), (12, 29, 12, 9, 7089), (12, 32, 12, 10, 7090), (12, 35, 12, 13, 7093), (12, 38, 12, 14, 7094), (12, 41, 12, 34, 7114), (12, 44, 12, 35, 7115), (12, 47, 12, 36, 7116), (12, 50, 12, 37, 7117)]
noncomputable def zFk4 : List (Nat × Nat × Nat × Nat × Nat) := [(12, 53, 12, 38, 7118), (12, 56, 12, 39, 7119), (12, 60, 12, 40, 7120), (12, 63, 12, 41, 7121), (12, 66, 12, 43, 7123), (12, 69, 12, 44, 7124), (12, 72, 12, 49, 7129), (12, 75, 12, 50, 7130), (12, 78, 12, 51, 7131), (12, 81, 12, 52, 7132), (12, 84, 12, 54, 7134), (12, 87, 12, 55, 7135), (12, 90, 12, 56, 7136), (12, 93, 12, 61, 7141), (12, 96, 12, 62, 7142), (12, 99, 12, 63, 7143), (12, 102, 12, 0, 7080), (12, 105, 12, 11, 7091), (12, 112, 12, 15, 7095), (12, 115, 12, 16, 7096), (12, 122, 12, 18, 7098), (12, 125, 12, 22, 7102), (12, 129, 12, 20, 7100), (12, 132, 12, 21, 7101), (12, 135, 12, 17, 7097), (12, 145, 12, 19, 7099), (12, 158, 12, 12, 7092), (12, 171, 12, 23, 7103), (12, 174, 12, 24, 7104), (12, 177, 12, 29, 7109), (12, 180, 12, 32, 7112), (12, 196, 12, 30, 7110), (12, 199, 12, 31, 7111), (12, 202, 12, 33, 7113), (12, 230, 12, 25, 7105), (12, 240, 12, 26, 7106), (12, 253, 12, 27, 7107), (12, 260, 12, 28, 7108), (12, 273, 12, 3, 7083), (12, 276, 12, 4, 7084)]
noncomputable def zFk5 : List (Nat × Nat × Nat × Nat × Nat) := [(12, 283, 12, 42, 7122), (12, 286, 12, 53, 7133), (12, 289, 12, 58, 7138), (12, 326, 12, 45, 7125), (12, 329, 12, 46, 7126), (12, 350, 12, 47, 7127), (12, 353, 12, 48, 7128), (12, 465, 12, 57, 7137), (12, 475, 12, 59, 7139), (12, 478, 12, 60, 7140), (15, 9, 100, 0, 10047), (15, 15, 100, 1, 10046)]
noncomputable def zFk : List (Nat × Nat × Nat × Nat × Nat) := zFk0 ++ (zFk1 ++ (zFk2 ++ (zFk3 ++ (zFk4 ++ (zFk5)))))
/-- links of methods -/
noncomputable def zMk0 : List (Nat × Nat × Nat × Nat × Nat) := [(0, 9, 115, 0, 1), (0, 29, 116, 1205, 0), (0, 32, 133, 3197, 0), (1, 11, 115, 1, 1), (1, 39, 133, 6200, 0), (1, 43, 130, 6201, 0), (1, 47, 38, 6202, 0), (1, 51, 27, 6206, 0), (1, 54, 18, 6207, 0), (1, 57, 123, 6208, 0), (1, 61, 9, 6221, 0), (1, 65, 10, 6226, 0), (1, 69, 21, 6225, 0), (1, 73, 120, 6230, 0), (1, 76, 121, 6231, 0), (1, 79, 12, 6236, 0), (1, 92, 15, 7015, 0), (1, 100, 16, 7020, 0), (1, 106, 122, 7026, 0), (1, 112, 332, 7025, 0), (1, 117, 32, 7027, 0), (1, 124, 136, 7024, 0), (2, 30, 124, 3083, 0), (2, 36, 60, 3087, 0), (2, 42, 128, 3115, 0), (2, 49, 123, 3079, 0), (2, 53, 25, 3111, 0), (2, 57, 24, 3107, 0), (2, 61, 130, 3137, 0), (2, 65, 28, 3141, 0), (2, 74, 29, 3145, 0), (2, 78, 131, 3149, 0), (2, 82, 125, 3091, 0), (2, 89, 118, 3025, 0), (2, 92, 22, 3075, 0), (2, 96, 122, 3066, 0), (2, 99, 19, 3021, 0), (2, 103, 127, 3099, 0), (2, 107, 23, 3103, 0), (2, 111, 27, 3133, 0)]
noncomputable def zMk1 : List (Nat × Nat × Nat × Nat × Nat) := [(2, 114, 132, 3155, 0), (2, 117, 20, 3029, 0), (2, 120, 21, 3071, 0), (2, 124, 126, 3095, 0), (2, 131, 109, 3033, 0), (2, 135, 119, 3037, 0), (2, 138, 120, 3041, 0), (2, 141, 121, 3045, 0), (2, 144, 117, 3049, 0), (2, 147, 110, 3050, 0), (2, 162, 26, 3119, 0), (2, 165, 129, 3123, 0), (2, 168, 332, 3127, 0), (2, 173, 138, 5128, 0), (3, 11, 115, 2, 1), (3, 25, 133, 3179, 0), (3, 29, 18, 3184, 0), (3, 38, 43, 3175, 0), (3, 42, 332, 6009, 0), (3, 48, 34, 7073, 0), (4, 11, 115, 3, 1), (4, 43, 133, 6144, 0), (4, 47, 50, 6145, 0), (4, 51, 51, 6150, 0), (4, 73, 119, 6164, 0), (4, 77, 134, 6165, 0), (4, 81, 54, 6166, 0), (4, 87, 128, 6170, 0), (4, 96, 18, 6154, 0), (4, 99, 52, 6155, 0), (4, 105, 123, 6159, 0), (4, 111, 332, 6186, 0), (4, 116, 56, 6182, 0), (5, 20, 107, 4, 1), (5, 34, 58, 1055, 0), (5, 44, 108, 1059, 0), (5, 45, 59, 1063, 0), (5, 64, 114, 5037, 0), (6, 36, 24, 5075, 0), (6, 46, 130, 5076, 0)]
noncomputable def zMk2 : List (Nat × Nat × Nat × Nat × Nat) := [(6, 52, 28, 5077, 0), (6, 56, 136, 5078, 0), (6, 60, 332, 5087, 0), (6, 66, 64, 5088, 0), (6, 69, 35, 6025, 0), (6, 79, 60, 6042, 0), (6, 82, 128, 6043, 0), (6, 85, 124, 6037, 0), (6, 88, 67, 6038, 0), (6, 94, 69, 6056, 0), (6, 97, 70, 6061, 0), (6, 101, 68, 6069, 0), (6, 104, 123, 6060, 0), (7, 29, 74, 6081, 0), (7, 32, 75, 6086, 0), (7, 42, 76, 6090, 0), (7, 46, 77, 6094, 0), (7, 49, 78, 6099, 0), (7, 58, 80, 6107, 0), (7, 62, 81, 6111, 0), (7, 66, 79, 6103, 0), (7, 73, 118, 6085, 0), (7, 81, 123, 6098, 0), (8, 11, 57, 1139, 0), (8, 20, 115, 5, 1), (8, 55, 58, 4042, 0), (8, 58, 116, 4043, 0), (8, 59, 84, 4044, 0), (8, 64, 87, 4139, 0), (8, 68, 88, 4164, 0), (8, 75, 93, 4185, 0), (8, 81, 85, 4048, 0), (8, 85, 86, 4051, 0), (8, 98, 333, 4056, 0), (8, 104, 336, 4143, 0), (8, 107, 338, 4144, 0), (8, 111, 92, 4181, 0), (8, 115, 90, 4172, 0), (8, 124, 89, 4168, 0), (8, 128, 59, 4176, 0)]
noncomputable def zMk3 : List (Nat × Nat × Nat × Nat × Nat) := [(8, 132, 91, 4177, 0), (8, 137, 94, 4190, 0), (8, 142, 96, 4204, 0), (8, 149, 97, 4215, 0), (8, 160, 95, 4194, 0), (8, 166, 134, 4198, 0), (8, 169, 122, 4202, 0), (8, 175, 135, 4208, 0), (8, 183, 125, 4213, 0), (8, 187, 109, 4219, 0), (8, 192, 98, 4220, 0), (8, 195, 99, 4224, 0), (8, 200, 113, 5009, 0), (8, 204, 100, 4228, 0), (8, 211, 101, 4233, 0), (8, 214, 102, 4237, 0), (8, 217, 103, 5001, 0), (8, 220, 104, 5005, 0), (8, 223, 105, 5013, 0), (8, 226, 106, 5022, 0), (9, 25, 111, 3054, 0), (9, 29, 112, 3057, 0), (10, 27, 118, 3153, 0), (10, 31, 122, 3154, 0), (10, 35, 123, 5082, 0), (10, 39, 137, 5083, 0), (11, 22, 57, 1037, 0), (11, 29, 82, 1134, 0), (11, 38, 0, 1199, 0), (11, 55, 17, 2001, 0), (11, 64, 41, 2028, 0), (11, 73, 62, 2046, 0), (11, 80, 72, 2071, 0), (11, 89, 48, 2102, 0), (11, 98, 6, 2137, 0), (11, 106, 142, 2230, 0), (11, 117, 83, 4037, 0), (11, 125, 61, 5032, 0), (11, 131, 4, 5042, 0), (11, 151, 117, 3002, 0)]
noncomputable def zMk4 : List (Nat × Nat × Nat × Nat × Nat) := [(11, 157, 30, 5054, 0), (11, 161, 130, 5058, 0), (11, 164, 31, 5059, 0), (11, 167, 32, 5063, 0), (11, 170, 33, 5067, 0), (11, 173, 63, 5071, 0), (11, 187, 154, 5115, 0), (11, 193, 119, 5120, 0), (11, 196, 118, 5121, 0), (11, 199, 120, 5122, 0), (11, 202, 121, 5123, 0), (11, 205, 34, 5124, 0), (11, 209, 22, 5132, 0), (11, 214, 156, 5141, 0), (11, 217, 124, 5146, 0), (11, 223, 128, 5147, 0), (11, 226, 129, 5148, 0), (11, 229, 138, 5149, 0), (11, 232, 137, 5150, 0), (11, 236, 35, 5151, 0), (11, 239, 36, 5155, 0), (11, 244, 145, 3006, 0), (11, 247, 1, 3010, 0), (11, 250, 18, 3017, 0), (11, 253, 136, 5167, 0), (11, 256, 27, 5168, 0), (11, 259, 332, 5169, 0), (11, 264, 159, 5177, 0), (11, 267, 135, 5182, 0), (11, 271, 139, 5190, 0), (11, 274, 122, 5201, 0), (11, 277, 2, 3163, 0), (11, 280, 163, 5209, 0), (11, 283, 164, 5214, 0), (11, 286, 44, 5219, 0), (11, 290, 43, 5237, 0), (11, 294, 42, 3171, 0), (11, 297, 45, 6005, 0), (11, 300, 37, 6010, 0), (11, 303, 65, 6021, 0)]
noncomputable def zMk5 : List (Nat × Nat × Nat × Nat × Nat) := [(11, 306, 66, 6033, 0), (11, 309, 67, 6044, 0), (11, 312, 68, 6052, 0), (11, 315, 71, 6065, 0), (11, 318, 73, 6077, 0), (11, 330, 5, 6129, 0), (11, 334, 49, 6140, 0), (11, 338, 53, 6160, 0), (11, 345, 55, 6178, 0), (11, 348, 56, 6187, 0), (11, 353, 7, 6196, 0), (11, 359, 8, 6217, 0), (11, 362, 11, 6232, 0), (11, 365, 13, 7000, 0), (11, 368, 14, 7011, 0), (11, 380, 39, 7035, 0), (11, 383, 40, 7039, 0), (11, 386, 46, 7057, 0), (11, 389, 38, 7061, 0), (11, 392, 47, 7069, 0), (11, 395, 3, 3193, 0), (12, 108, 186, 8042, 0), (12, 118, 190, 8058, 0), (12, 138, 191, 8062, 0), (12, 142, 192, 8065, 0), (12, 150, 195, 8075, 0), (12, 154, 194, 8072, 0), (12, 161, 197, 8083, 0), (12, 165, 189, 8054, 0), (12, 168, 198, 8087, 0), (12, 183, 213, 8147, 0), (12, 186, 214, 8150, 0), (12, 189, 211, 8139, 0), (12, 192, 193, 8068, 0), (12, 205, 199, 8091, 0), (12, 208, 209, 8131, 0), (12, 211, 207, 8123, 0), (12, 214, 210, 8135, 0), (12, 217, 212, 8143, 0), (12, 220, 208, 8127, 0)]
noncomputable def zMk6 : List (Nat × Nat × Nat × Nat × Nat) := [(12, 224, 215, 8153, 0), (12, 227, 216, 8157, 0), (12, 233, 204, 8111, 0), (12, 236, 196, 8079, 0), (12, 243, 202, 8103, 0), (12, 247, 203, 8107, 0), (12, 250, 205, 8115, 0), (12, 256, 206, 8119, 0), (12, 263, 200, 8095, 0), (12, 266, 188, 8050, 0), (12, 270, 201, 8099, 0), (12, 279, 217, 8161, 0), (12, 293, 251, 9054, 0), (12, 297, 232, 8219, 0), (12, 300, 231, 8215, 0), (12, 303, 223, 8184, 0), (12, 307, 230, 8211, 0), (12, 311, 222, 8180, 0), (12, 314, 224, 8188, 0), (12, 317, 227, 8200, 0), (12, 320, 229, 8207, 0), (12, 323, 253, 9060, 0), (12, 332, 228, 8204, 0), (12, 335, 237, 8238, 0), (12, 338, 250, 9050, 0), (12, 341, 252, 9057, 0), (12, 344, 249, 9046, 0), (12, 347, 254, 9063, 0), (12, 356, 248, 9042, 0), (12, 359, 255, 9067, 0), (12, 362, 256, 9071, 0), (12, 365, 246, 9034, 0), (12, 368, 247, 9038, 0), (12, 371, 245, 9030, 0), (12, 374, 221, 8177, 0), (12, 377, 225, 8192, 0), (12, 380, 226, 8196, 0), (12, 383, 234, 8226, 0), (12, 386, 235, 8230, 0), (12, 389, 236, 8234, 0)]
noncomputable def zMk7 : List (Nat × Nat × Nat × Nat × Nat) := [(12, 392, 239, 9006, 0), (12, 395, 240, 9010, 0), (12, 398, 241, 9014, 0), (12, 401, 243, 9022, 0), (12, 404, 244, 9026, 0), (12, 407, 258, 9079, 0), (12, 410, 260, 9087, 0), (12, 413, 266, 9111, 0), (12, 416, 267, 9115, 0), (12, 419, 264, 9103, 0), (12, 422, 265, 9107, 0), (12, 425, 271, 9131, 0), (12, 428, 278, 9158, 0), (12, 431, 282, 9174, 0), (12, 434, 283, 9178, 0), (12, 437, 281, 9170, 0), (12, 440, 287, 9194, 0), (12, 443, 288, 9198, 0), (12, 446, 286, 9190, 0), (12, 449, 285, 9186, 0), (12, 452, 293, 9218, 0), (12, 455, 294, 9222, 0), (12, 458, 297, 9234, 0), (12, 461, 299, 10002, 0), (12, 469, 302, 10014, 0), (12, 472, 301, 10010, 0), (13, 7, 151, 3206, 0), (13, 15, 152, 5050, 0), (13, 20, 153, 5111, 0), (13, 24, 155, 5137, 0), (13, 27, 157, 5163, 0), (13, 30, 158, 5173, 0), (13, 33, 160, 5186, 0), (13, 37, 161, 5197, 0), (13, 40, 162, 5205, 0), (13, 44, 165, 5226, 0), (13, 47, 166, 5233, 0), (13, 50, 167, 6001, 0), (13, 53, 168, 6017, 0), (13, 56, 169, 6029, 0)]
noncomputable def zMk8 : List (Nat × Nat × Nat × Nat × Nat) := [(13, 59, 170, 6048, 0), (13, 62, 171, 6073, 0), (13, 65, 172, 6118, 0), (13, 68, 173, 6125, 0), (13, 72, 174, 6136, 0), (13, 75, 175, 6174, 0), (13, 78, 176, 6191, 0), (13, 81, 177, 6212, 0), (13, 84, 178, 7007, 0), (13, 87, 179, 7031, 0), (13, 90, 180, 7046, 0), (13, 93, 181, 7053, 0), (13, 96, 182, 7065, 0), (13, 99, 140, 1029, 0), (13, 102, 183, 7076, 0), (13, 103, 141, 2226, 0), (13, 107, 185, 8038, 0), (13, 108, 305, 3202, 0), (13, 113, 187, 8046, 0), (13, 114, 184, 8034, 0), (13, 118, 143, 2234, 0), (13, 121, 218, 8165, 0), (13, 122, 306, 5046, 0), (13, 124, 220, 8173, 0), (13, 125, 307, 5108, 0), (13, 128, 233, 8222, 0), (13, 129, 308, 5134, 0), (13, 131, 238, 9002, 0), (13, 132, 144, 2238, 0), (13, 135, 242, 9018, 0), (13, 136, 309, 5160, 0), (13, 138, 257, 9075, 0), (13, 139, 310, 5170, 0), (13, 141, 259, 9083, 0), (13, 142, 311, 5183, 0), (13, 145, 261, 9091, 0), (13, 146, 312, 5194, 0), (13, 148, 262, 9095, 0), (13, 149, 146, 3159, 0), (13, 152, 219, 8169, 0)]
noncomputable def zMk9 : List (Nat × Nat × Nat × Nat × Nat) := [(13, 153, 313, 5202, 0), (13, 156, 263, 9099, 0), (13, 157, 314, 5223, 0), (13, 159, 268, 9119, 0), (13, 160, 315, 5230, 0), (13, 162, 269, 9123, 0), (13, 163, 147, 3167, 0), (13, 166, 270, 9127, 0), (13, 167, 316, 5238, 0), (13, 169, 272, 9134, 0), (13, 170, 317, 6014, 0), (13, 172, 276, 9150, 0), (13, 173, 318, 6026, 0), (13, 175, 277, 9154, 0), (13, 176, 319, 6045, 0), (13, 178, 280, 9166, 0), (13, 179, 320, 6070, 0), (13, 181, 284, 9182, 0), (13, 182, 321, 6115, 0), (13, 184, 289, 9202, 0), (13, 185, 322, 6122, 0), (13, 188, 290, 9206, 0), (13, 189, 148, 3185, 0), (13, 192, 291, 9210, 0), (13, 193, 323, 6133, 0), (13, 195, 292, 9214, 0), (13, 196, 324, 6171, 0), (13, 198, 295, 9226, 0), (13, 199, 325, 6188, 0), (13, 201, 296, 9230, 0), (13, 202, 326, 6209, 0), (13, 204, 298, 9238, 0), (13, 205, 327, 7004, 0), (13, 207, 300, 10006, 0), (13, 208, 328, 7028, 0), (13, 210, 279, 9162, 0), (13, 211, 329, 7043, 0), (13, 213, 273, 9138, 0), (13, 214, 330, 7050, 0), (13, 216, 274, 9142, 0)]
noncomputable def zMk10 : List (Nat × Nat × Nat × Nat × Nat) := [(13, 217, 331, 7062, 0), (13, 219, 275, 9146, 0), (13, 220, 149, 3189, 0), (13, 223, 303, 10019, 0), (13, 224, 150, 3198, 0), (13, 228, 304, 10023, 0), (15, 335, 337, 4074, 0), (15, 492, 335, 4064, 0), (15, 495, 343, 4148, 0), (15, 505, 336, 4070, 0), (15, 633, 334, 4060, 0), (15, 637, 340, 4078, 0), (15, 1059, 344, 4154, 0), (16, 9, 339, 4151, 0), (16, 88, 341, 4081, 0), (16, 95, 342, 4086, 0)]
noncomputable def zMk : List (Nat × Nat × Nat × Nat × Nat) := zMk0 ++ (zMk1 ++ (zMk2 ++ (zMk3 ++ (zMk4 ++ (zMk5 ++ (zMk6 ++ (zMk7 ++ (zMk8 ++ (zMk9 ++ (zMk10))))))))))
def zOk : List (Nat × Nat × Nat) := [(0, 1, 1202), (1, 3, 2140), (2, 3, 2004), (3, 3, 2031), (4, 3, 2105), (5, 3, 1040), (6, 3, 2049), (7, 3, 2074), (8, 3, 1137), (9, 3, 1046), (10, 5, 1145), (11, 3, 1032), (12, 1, 7079)]
def zAk : List (Nat × Nat × Nat) := [(0, 43, 3014), (5, 58, 5036), (9, 19, 5041), (10, 15, 3183)]
def zHk : List (Nat × Nat × Nat × Nat) := [(2, 151, 0, 3060), (2, 156, 1, 3063), (4, 55, 1, 6149), (8, 36, 0, 4041), (10, 21, 0, 3070), (16, 38, 0, 4085), (16, 92, 1, 4084)]
/-- links of classes and constants: class, place, what (a class; 200, 201 the exceptions; 300 an int; 400 a long; 500, 501 statics), word, number -/
def zNk : List (Nat × Nat × Nat × Nat × Nat) := [(0, 7, 10, 1203, 0), (1, 9, 10, 2141, 0), (1, 127, 300, 7019, 1103515245), (3, 9, 10, 2032, 0), (4, 9, 10, 2106, 0), (5, 18, 9, 1041, 0), (8, 9, 5, 1138, 0), (8, 18, 10, 1140, 0), (8, 91, 300, 4054, 99999), (11, 20, 5, 1035, 0), (11, 27, 8, 1132, 0), (11, 36, 0, 1197, 0), (11, 53, 2, 1239, 0), (11, 62, 3, 2026, 0), (11, 71, 6, 2044, 0), (11, 78, 7, 2069, 0), (11, 87, 4, 2100, 0), (11, 96, 1, 2135, 0), (11, 110, 201, 3210, 0), (11, 182, 200, 5092, 0), (12, 148, 400, 8078, 96), (12, 468, 300, 10018, 1103515245), (13, 8, 11, 1027, 0), (13, 13, 201, 3205, 0), (13, 18, 200, 5049, 0), (13, 100, 12, 7074, 0), (14, 265, 300, 3130, 1431655765), (14, 266, 300, 3131, 858993459), (14, 267, 300, 3132, 252645135), (15, 38, 500, 4068, 0), (15, 1053, 501, 4107, 0)]
/-- instantiable, initialized -/
def zNi : List (Nat × Nat) := [(1198, 1006), (2136, 1012), (2000, 1007), (2027, 1008), (2101, 1011), (1036, 1002), (2045, 1009), (2070, 1010), (1133, 1004), (1042, 1003), (1141, 1005), (1028, 1001), (7075, 1013)]
noncomputable def zWb : List Cond := [(Jvm.Cond.methodLinkNest "TemperDowns$Book" (9 : Nat) ({ cls := "TemperDowns$Scene", name := "<init>", desc := "()V" } : Jvm.MethodName) "TemperDowns"),
  (Jvm.Cond.methodLinkNest "TemperDowns$Chance" (11 : Nat) ({ cls := "TemperDowns$Scene", name := "<init>", desc := "()V" } : Jvm.MethodName) "TemperDowns"),
  (Jvm.Cond.methodLinkNest "TemperDowns$Forecast" (11 : Nat) ({ cls := "TemperDowns$Scene", name := "<init>", desc := "()V" } : Jvm.MethodName) "TemperDowns"),
  (Jvm.Cond.methodLinkNest "TemperDowns$Guess" (11 : Nat) ({ cls := "TemperDowns$Scene", name := "<init>", desc := "()V" } : Jvm.MethodName) "TemperDowns"),
  (Jvm.Cond.methodLinkNest "TemperDowns$Land" (20 : Nat) ({ cls := "TemperDowns$Rule", name := "<init>", desc := "()V" } : Jvm.MethodName) "TemperDowns"),
  (Jvm.Cond.methodLinkNest "TemperDowns$Reader" (20 : Nat) ({ cls := "TemperDowns$Scene", name := "<init>", desc := "()V" } : Jvm.MethodName) "TemperDowns"),
  (Jvm.Cond.castable "java/lang/IllegalArgumentException" "java/lang/IllegalArgumentException"),
  (Jvm.Cond.declares ({ cls := "java/lang/RuntimeException", name := "<init>", desc := "()V" } : Jvm.MethodName)),
  (Jvm.Cond.declares ({ cls := "java/lang/RuntimeException", name := "<init>", desc := "(Ljava/lang/String;)V" } : Jvm.MethodName)),
  (Jvm.Cond.declares ({ cls := "java/lang/Exception", name := "<init>", desc := "()V" } : Jvm.MethodName)),
  (Jvm.Cond.declares ({ cls := "java/lang/Exception", name := "<init>", desc := "(Ljava/lang/String;)V" } : Jvm.MethodName)),
  (Jvm.Cond.declares ({ cls := "java/lang/Throwable", name := "<init>", desc := "()V" } : Jvm.MethodName)),
  (Jvm.Cond.declares ({ cls := "java/lang/Throwable", name := "<init>", desc := "(Ljava/lang/String;)V" } : Jvm.MethodName)),
  (Jvm.Cond.castable "java/util/NoSuchElementException" "java/util/NoSuchElementException")]
/-- where they stand in the tables -/
noncomputable def zWbp : List Nat := [1204, 2142, 2033, 2107, 1043, 1142, 3212, 3213, 3214, 3215, 3216, 3217, 3218, 5094]
def zNc : List (String × String) := [("java/util/NoSuchElementException", "java/lang/IllegalArgumentException"), ("java/lang/IllegalArgumentException", "java/util/NoSuchElementException")]
noncomputable def zSx : List (String × Nat × String × Nat) := [("TemperDowns$Reader", 96, ";()+-*/<=", 1),
  ("TemperDowns$Reader", 62, "downs", 3),
  ("TemperDowns$Reader", 135, "person", 5),
  ("TemperDowns$Reader", 140, "ball", 7),
  ("TemperDowns$Reader", 181, "holds", 9),
  ("TemperDowns$Reader", 145, "rises", 11),
  ("TemperDowns$Reader", 209, "not", 13),
  ("TemperDowns$Reader", 229, "mild", 15),
  ("TemperDowns$Reader", 231, "temper", 17),
  ("TemperDowns$Reader", 233, "shouts", 19),
  ("TemperDowns$Reader", 235, "heard", 21),
  ("TemperDowns$Reader", 237, "day", 23),
  ("TemperDowns$Reader", 239, "size", 25),
  ("TemperDowns$Reader", 240, "age", 27),
  ("TemperDowns$Reader", 242, "near", 29),
  ("TemperDowns$Reader", 207, "and", 31),
  ("TemperDowns$Reader", 198, "or", 33),
  ("TemperDowns$Reader", 153, "bursts", 35),
  ("TemperDowns", 112, "the tape has not so many bytes", 37),
  ("TemperDowns", 184, "no such count", 39),
  ("TemperDowns", 398, "no such person", 41),
  ("TemperDowns", 212, "no such thing of a person", 43),
  ("TemperDowns", 400, "no such puffball", 45),
  ("TemperDowns", 242, "no such thing of a puffball", 47),
  ("TemperDowns", 405, "no such cell", 49),
  ("TemperDowns", 407, "no such what", 51),
  ("TemperDowns", 409, "no such days", 53),
  ("TemperDowns", 351, "no such days or tenths", 55),
  ("TemperDowns", 357, "both are one", 57)]
/-- where the words of the texts stand -/
def zSxp : List Nat := [4055, 4138, 4189, 4203, 4212, 4214, 4232, 5017, 5018, 5019, 5020, 5021, 5026, 5027, 5028, 5029, 5030, 5031, 4010, 5101, 5119, 5133, 5145, 5159, 5181, 5213, 5218, 6195, 6216]
/-- the bytes of the texts that are read -/
def zTx : List (List Int32) := [[59, 40, 41, 43, 45, 42, 47, 60, 61],
  [100, 111, 119, 110, 115],
  [112, 101, 114, 115, 111, 110],
  [98, 97, 108, 108],
  [104, 111, 108, 100, 115],
  [114, 105, 115, 101, 115],
  [110, 111, 116],
  [109, 105, 108, 100],
  [116, 101, 109, 112, 101, 114],
  [115, 104, 111, 117, 116, 115],
  [104, 101, 97, 114, 100],
  [100, 97, 121],
  [115, 105, 122, 101],
  [97, 103, 101],
  [110, 101, 97, 114],
  [97, 110, 100],
  [111, 114],
  [98, 117, 114, 115, 116, 115]]
def zFm : Nat := 59
/-- arrayClass int, long, boolean; native, static arraycopy, System initialized; Object.<init>: instance, code; the exceptions initialized -/
def zSp : List Nat := [1054, 10027, 8033, 3016, 3015, 1024, 1033, 1034, 1026, 1017, 1018, 3061, 3062, 3064, 3065]
def zXb : List (ByteArray × Nat) := [(prog_31_method_4_code, 13), (prog_20_method_2_code, 7)]
/-- the places of the constructors in TemperDowns -/
def zXi : List Nat := [186, 114]
/-- laysStatic: COMPACT_STRINGS, SIOOBE_FORMATTER, UNASSIGNED_STACK, SUPPRESSED_SENTINEL; initialized: String, Preconditions, Throwable -/
def zLs : List Nat := [4069, 4108, 3237, 3239, 1019, 1022, 1014]
def zTd : Nat := 11
def znth {α : Type} : List α → Nat → Option α
  | [], _ => none
  | a :: _, 0 => some a
  | _ :: r, i + 1 => znth r i
/-- a word by its place: a thousand for each table -/
noncomputable def zwt (t i : Nat) : Option Cond := match t with
  | 1 => znth tables_1_1 i
  | 2 => znth tables_1_2 i
  | 3 => znth tables_1_3 i
  | 4 => znth tables_1_4 i
  | 5 => znth tables_1_5 i
  | 6 => znth tables_1_6 i
  | 7 => znth tables_1_7 i
  | 8 => znth tables_1_8 i
  | 9 => znth tables_1_9 i
  | 10 => znth tables_1_10 i
  | 11 => some (Jvm.Cond.code x code maxLocals ret)
  | 21 => (znth lw_privs_1 i).map (fun q => Cond.selects q.1.cls q.1 q.1)
  | 22 => (znth lw_privs_2 i).map (fun q => Cond.selects q.1.cls q.1 q.1)
  | 23 => (znth lw_privs_3 i).map (fun q => Cond.selects q.1.cls q.1 q.1)
  | 24 => (znth lw_privs_4 i).map (fun q => Cond.selects q.1.cls q.1 q.1)
  | 25 => (znth lw_privs_5 i).map (fun q => Cond.selects q.1.cls q.1 q.1)
  | 26 => (znth lw_privs_6 i).map (fun q => Cond.selects q.1.cls q.1 q.1)
  | 27 => (znth lw_privs_7 i).map (fun q => Cond.selects q.1.cls q.1 q.1)
  | 28 => (znth lw_privs_8 i).map (fun q => Cond.selects q.1.cls q.1 q.1)
  | _ => none
noncomputable def zword (p : Nat) : Option Cond := zwt (p / 1000) (p % 1000)
abbrev m_Book_init : Nat := 0
abbrev m_Book_keepAct : Nat := 1
abbrev m_Book_takeBackAct : Nat := 2
abbrev m_Book_copyFrom : Nat := 3
abbrev m_Book_begin : Nat := 4
abbrev m_Book_addSight : Nat := 5
abbrev m_Chance_init : Nat := 6
abbrev m_Chance_whiteByBoys : Nat := 7
abbrev m_Chance_play : Nat := 8
abbrev m_Chance_choose : Nat := 9
abbrev m_Chance_lossOf : Nat := 10
abbrev m_Chance_resting : Nat := 11
abbrev m_Chance_rests : Nat := 12
abbrev m_Chance_firstResting : Nat := 13
abbrev m_Chance_live : Nat := 14
abbrev m_Chance_draw : Nat := 15
abbrev m_Chance_treadDrawn : Nat := 16
abbrev m_Downs_init : Nat := 17
abbrev m_Downs_passDay : Nat := 18
abbrev m_Downs_livePersonsDay : Nat := 19
abbrev m_Downs_riseOf : Nat := 20
abbrev m_Downs_goOut : Nat := 21
abbrev m_Downs_nearestWhite : Nat := 22
abbrev m_Downs_ripe : Nat := 23
abbrev m_Downs_link : Nat := 24
abbrev m_Downs_reaches : Nat := 25
abbrev m_Downs_isRipe : Nat := 26
abbrev m_Downs_burst : Nat := 27
abbrev m_Downs_chain : Nat := 28
abbrev m_Downs_heardOf : Nat := 29
abbrev m_Downs_whites : Nat := 30
abbrev m_Downs_heldByAll : Nat := 31
abbrev m_Downs_temperOfAll : Nat := 32
abbrev m_Downs_shoutedByAll : Nat := 33
abbrev m_Downs_ownedBy : Nat := 34
abbrev m_Downs_setOffBy : Nat := 35
abbrev m_Downs_hearers : Nat := 36
abbrev m_Downs_crossest : Nat := 37
abbrev m_Downs_fullest : Nat := 38
abbrev m_Downs_over : Nat := 39
abbrev m_Downs_nearestBall : Nat := 40
abbrev m_Forecast_init : Nat := 41
abbrev m_Forecast_firstToBurst : Nat := 42
abbrev m_Forecast_firstDay : Nat := 43
abbrev m_Forecast_behind : Nat := 44
abbrev m_Forecast_bursts : Nat := 45
abbrev m_Forecast_calmDays : Nat := 46
abbrev m_Forecast_outstayed : Nat := 47
abbrev m_Guess_init : Nat := 48
abbrev m_Guess_isSoAnyway : Nat := 49
abbrev m_Guess_lastDay : Nat := 50
abbrev m_Guess_agrees : Nat := 51
abbrev m_Guess_agreesOn : Nat := 52
abbrev m_Guess_search : Nat := 53
abbrev m_Guess_note : Nat := 54
abbrev m_Guess_mostUnlike : Nat := 55
abbrev m_Guess_unlikeIn : Nat := 56
abbrev m_Land_init : Nat := 57
abbrev m_Land_clear : Nat := 58
abbrev m_Land_measure : Nat := 59
abbrev m_Land_far : Nat := 60
abbrev m_Land_copyFrom : Nat := 61
abbrev m_Plans_init : Nat := 62
abbrev m_Plans_allAtOnce : Nat := 63
abbrev m_Plans_together : Nat := 64
abbrev m_Plans_guardsBetween : Nat := 65
abbrev m_Plans_bestCellFor : Nat := 66
abbrev m_Plans_homesInReach : Nat := 67
abbrev m_Plans_stepsBetween : Nat := 68
abbrev m_Plans_isBarred : Nat := 69
abbrev m_Plans_walkBackFrom : Nat := 70
abbrev m_Plans_firstStep : Nat := 71
abbrev m_PutBy_init : Nat := 72
abbrev m_PutBy_choose : Nat := 73
abbrev m_PutBy_sortPeople : Nat := 74
abbrev m_PutBy_sortBalls : Nat := 75
abbrev m_PutBy_crossPeople : Nat := 76
abbrev m_PutBy_whiteBalls : Nat := 77
abbrev m_PutBy_bestOf : Nat := 78
abbrev m_PutBy_worthOf : Nat := 79
abbrev m_PutBy_firstFor : Nat := 80
abbrev m_PutBy_take : Nat := 81
abbrev m_Reader_init : Nat := 82
abbrev m_Reader_readText : Nat := 83
abbrev m_Reader_nextToken : Nat := 84
abbrev m_Reader_isLetter : Nat := 85
abbrev m_Reader_isDigit : Nat := 86
abbrev m_Reader_isWord : Nat := 87
abbrev m_Reader_readDowns : Nat := 88
abbrev m_Reader_readNumber : Nat := 89
abbrev m_Reader_fail : Nat := 90
abbrev m_Reader_readSign : Nat := 91
abbrev m_Reader_isSign : Nat := 92
abbrev m_Reader_readLine : Nat := 93
abbrev m_Reader_readPerson : Nat := 94
abbrev m_Reader_readCell : Nat := 95
abbrev m_Reader_readBall : Nat := 96
abbrev m_Reader_readRule : Nat := 97
abbrev m_Reader_readExpr : Nat := 98
abbrev m_Reader_readAnd : Nat := 99
abbrev m_Reader_readNot : Nat := 100
abbrev m_Reader_readTest : Nat := 101
abbrev m_Reader_readSum : Nat := 102
abbrev m_Reader_readProduct : Nat := 103
abbrev m_Reader_readPart : Nat := 104
abbrev m_Reader_valueOfPerson : Nat := 105
abbrev m_Reader_valueOfBall : Nat := 106
abbrev m_Rule_init : Nat := 107
abbrev m_Rule_clear : Nat := 108
abbrev m_Rule_isTold : Nat := 109
abbrev m_Rule_worth : Nat := 110
abbrev m_Rule_valueAt : Nat := 111
abbrev m_Rule_join : Nat := 112
abbrev m_Rule_add : Nat := 113
abbrev m_Rule_copyFrom : Nat := 114
abbrev m_Scene_init : Nat := 115
abbrev m_Scene_clear : Nat := 116
abbrev m_Scene_day : Nat := 117
abbrev m_Scene_temperOf : Nat := 118
abbrev m_Scene_mildOf : Nat := 119
abbrev m_Scene_shoutedBy : Nat := 120
abbrev m_Scene_heardBy : Nat := 121
abbrev m_Scene_setTemper : Nat := 122
abbrev m_Scene_isWhite : Nat := 123
abbrev m_Scene_cellOf : Nat := 124
abbrev m_Scene_fill : Nat := 125
abbrev m_Scene_shout : Nat := 126
abbrev m_Scene_growOld : Nat := 127
abbrev m_Scene_heldIn : Nat := 128
abbrev m_Scene_ageOf : Nat := 129
abbrev m_Scene_guards : Nat := 130
abbrev m_Scene_hear : Nat := 131
abbrev m_Scene_nextDay : Nat := 132
abbrev m_Scene_copyFrom : Nat := 133
abbrev m_Scene_setMild : Nat := 134
abbrev m_Scene_setCell : Nat := 135
abbrev m_Scene_isLoose : Nat := 136
abbrev m_Scene_isGuarded : Nat := 137
abbrev m_Scene_ownerOf : Nat := 138
abbrev m_Scene_setGuards : Nat := 139
abbrev m_x_init : Nat := 140
abbrev m_x_feed : Nat := 141
abbrev m_x_append : Nat := 142
abbrev m_x_fault : Nat := 143
abbrev m_x_days : Nat := 144
abbrev m_x_refuse : Nat := 145
abbrev m_x_undo : Nat := 146
abbrev m_x_first : Nat := 147
abbrev m_x_forget : Nat := 148
abbrev m_x_image : Nat := 149
abbrev m_x_restore : Nat := 150
abbrev m_x_county : Nat := 151
abbrev m_x_count : Nat := 152
abbrev m_x_person : Nat := 153
abbrev m_x_needPerson : Nat := 154
abbrev m_x_ball : Nat := 155
abbrev m_x_needBall : Nat := 156
abbrev m_x_tread : Nat := 157
abbrev m_x_carry : Nat := 158
abbrev m_x_needCell : Nat := 159
abbrev m_x_guard : Nat := 160
abbrev m_x_soothe : Nat := 161
abbrev m_x_then : Nat := 162
abbrev m_x_needWhat : Nat := 163
abbrev m_x_needDays : Nat := 164
abbrev m_x_mood : Nat := 165
abbrev m_x_off : Nat := 166
abbrev m_x_later : Nat := 167
abbrev m_x_toGuard : Nat := 168
abbrev m_x_fire : Nat := 169
abbrev m_x_pram : Nat := 170
abbrev m_x_putBy : Nat := 171
abbrev m_x_put : Nat := 172
abbrev m_x_see : Nat := 173
abbrev m_x_milder : Nat := 174
abbrev m_x_look : Nat := 175
abbrev m_x_boys : Nat := 176
abbrev m_x_game : Nat := 177
abbrev m_x_years : Nat := 178
abbrev m_x_cell : Nat := 179
abbrev m_x_when : Nat := 180
abbrev m_x_ahead : Nat := 181
abbrev m_x_stays : Nat := 182
abbrev m_m_init : Nat := 183
abbrev m_m_thrown : Nat := 184
abbrev m_m_feed : Nat := 185
abbrev m_m_lays : Nat := 186
abbrev m_m_county : Nat := 187
abbrev m_m_right : Nat := 188
abbrev m_m_goes : Nat := 189
abbrev m_m_byteAt : Nat := 190
abbrev m_m_isLetter : Nat := 191
abbrev m_m_isDigit : Nat := 192
abbrev m_m_knownWord : Nat := 193
abbrev m_m_letters : Nat := 194
abbrev m_m_spelled : Nat := 195
abbrev m_m_number : Nat := 196
abbrev m_m_isGood : Nat := 197
abbrev m_m_wrong : Nat := 198
abbrev m_m_isSign : Nat := 199
abbrev m_m_need : Nat := 200
abbrev m_m_line : Nat := 201
abbrev m_m_begins : Nat := 202
abbrev m_m_readsPerson : Nat := 203
abbrev m_m_cellHere : Nat := 204
abbrev m_m_readsBall : Nat := 205
abbrev m_m_expression : Nat := 206
abbrev m_m_deeper : Nat := 207
abbrev m_m_operand : Nat := 208
abbrev m_m_waitsFor : Nat := 209
abbrev m_m_part : Nat := 210
abbrev m_m_puts : Nat := 211
abbrev m_m_drops : Nat := 212
abbrev m_m_isOpen : Nat := 213
abbrev m_m_strength : Nat := 214
abbrev m_m_isOpened : Nat := 215
abbrev m_m_closes : Nat := 216
abbrev m_m_copies : Nat := 217
abbrev m_m_fault : Nat := 218
abbrev m_m_undo : Nat := 219
abbrev m_m_count : Nat := 220
abbrev m_m_within : Nat := 221
abbrev m_m_heldOnes : Nat := 222
abbrev m_m_isWhite : Nat := 223
abbrev m_m_guardedOnes : Nat := 224
abbrev m_m_sumOf : Nat := 225
abbrev m_m_allAtOnce : Nat := 226
abbrev m_m_free : Nat := 227
abbrev m_m_bits : Nat := 228
abbrev m_m_setOff : Nat := 229
abbrev m_m_isIn : Nat := 230
abbrev m_m_farOf : Nat := 231
abbrev m_m_apart : Nat := 232
abbrev m_m_person : Nat := 233
abbrev m_m_isPerson : Nat := 234
abbrev m_m_isWhat : Nat := 235
abbrev m_m_ownOnes : Nat := 236
abbrev m_m_ballFor : Nat := 237
abbrev m_m_ball : Nat := 238
abbrev m_m_isBall : Nat := 239
abbrev m_m_setOffBy : Nat := 240
abbrev m_m_hearers : Nat := 241
abbrev m_m_days : Nat := 242
abbrev m_m_refuses : Nat := 243
abbrev m_m_keeps : Nat := 244
abbrev m_m_dayOf : Nat := 245
abbrev m_m_begins0 : Nat := 246
abbrev m_m_dayGoes : Nat := 247
abbrev m_m_rises : Nat := 248
abbrev m_m_risesBy : Nat := 249
abbrev m_m_reckons : Nat := 250
abbrev m_m_works : Nat := 251
abbrev m_m_bounded : Nat := 252
abbrev m_m_lesser : Nat := 253
abbrev m_m_goesOut : Nat := 254
abbrev m_m_bursts : Nat := 255
abbrev m_m_goOff : Nat := 256
abbrev m_m_tread : Nat := 257
abbrev m_m_mayTread : Nat := 258
abbrev m_m_carry : Nat := 259
abbrev m_m_isCell : Nat := 260
abbrev m_m_guard : Nat := 261
abbrev m_m_soothe : Nat := 262
abbrev m_m_then : Nat := 263
abbrev m_m_isSoon : Nat := 264
abbrev m_m_goesTo : Nat := 265
abbrev m_m_tries : Nat := 266
abbrev m_m_daysGo : Nat := 267
abbrev m_m_mood : Nat := 268
abbrev m_m_off : Nat := 269
abbrev m_m_first : Nat := 270
abbrev m_m_lowest : Nat := 271
abbrev m_m_later : Nat := 272
abbrev m_m_when : Nat := 273
abbrev m_m_ahead : Nat := 274
abbrev m_m_stays : Nat := 275
abbrev m_m_toGuard : Nat := 276
abbrev m_m_fire : Nat := 277
abbrev m_m_homesBy : Nat := 278
abbrev m_m_cell : Nat := 279
abbrev m_m_pram : Nat := 280
abbrev m_m_laysFar : Nat := 281
abbrev m_m_isShut : Nat := 282
abbrev m_m_beside : Nat := 283
abbrev m_m_putBy : Nat := 284
abbrev m_m_laysTaking : Nat := 285
abbrev m_m_laysPuts : Nat := 286
abbrev m_m_canPut : Nat := 287
abbrev m_m_puts0 : Nat := 288
abbrev m_m_put : Nat := 289
abbrev m_m_see : Nat := 290
abbrev m_m_forget : Nat := 291
abbrev m_m_milder : Nat := 292
abbrev m_m_isSeen : Nat := 293
abbrev m_m_isGuess : Nat := 294
abbrev m_m_look : Nat := 295
abbrev m_m_boys : Nat := 296
abbrev m_m_treads : Nat := 297
abbrev m_m_game : Nat := 298
abbrev m_m_gains : Nat := 299
abbrev m_m_years : Nat := 300
abbrev m_m_happens : Nat := 301
abbrev m_m_draw : Nat := 302
abbrev m_m_image : Nat := 303
abbrev m_m_restore : Nat := 304
abbrev m_law_county : Nat := 305
abbrev m_law_count : Nat := 306
abbrev m_law_person : Nat := 307
abbrev m_law_ball : Nat := 308
abbrev m_law_tread : Nat := 309
abbrev m_law_carry : Nat := 310
abbrev m_law_guard : Nat := 311
abbrev m_law_soothe : Nat := 312
abbrev m_law_then : Nat := 313
abbrev m_law_mood : Nat := 314
abbrev m_law_off : Nat := 315
abbrev m_law_later : Nat := 316
abbrev m_law_toGuard : Nat := 317
abbrev m_law_fire : Nat := 318
abbrev m_law_pram : Nat := 319
abbrev m_law_putBy : Nat := 320
abbrev m_law_put : Nat := 321
abbrev m_law_see : Nat := 322
abbrev m_law_milder : Nat := 323
abbrev m_law_look : Nat := 324
abbrev m_law_boys : Nat := 325
abbrev m_law_game : Nat := 326
abbrev m_law_years : Nat := 327
abbrev m_law_cell : Nat := 328
abbrev m_law_when : Nat := 329
abbrev m_law_ahead : Nat := 330
abbrev m_law_stays : Nat := 331
abbrev m_Integer_bitCount : Nat := 332
abbrev m_String_indexOf_I : Nat := 333
abbrev m_String_indexOf_II : Nat := 334
abbrev m_String_isLatin1 : Nat := 335
abbrev m_String_length : Nat := 336
abbrev m_String_coder : Nat := 337
abbrev m_String_charAt : Nat := 338
abbrev m_String_checkIndex : Nat := 339
abbrev m_StringLatin1_indexOf : Nat := 340
abbrev m_StringLatin1_canEncode : Nat := 341
abbrev m_StringLatin1_indexOfChar : Nat := 342
abbrev m_StringLatin1_charAt : Nat := 343
abbrev m_Preconditions_checkIndex : Nat := 344
abbrev m_law_law : Nat := 345
