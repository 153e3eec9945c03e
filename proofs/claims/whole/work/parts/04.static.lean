/-! THE CLASSES, THE KINDS OF THE CELLS (by the order in which the constructors make them), THE STRINGS: written by gen_static.py -/
def zF0 : u_T := fun k => match k with
  | 0 => ("WaterByLetters$Book", "turn", "[I", true)
  | 1 => ("WaterByLetters$Book", "places", "[I", true)
  | 2 => ("WaterByLetters$Book", "keys", "[I", true)
  | 3 => ("WaterByLetters$Book", "ranks", "[I", true)
  | _ => ("WaterByLetters$Book", "count", "I", false)
def zt0 : Nat → FieldType := fun k => match k with
  | 0 => .array .int
  | 1 => .array .int
  | 2 => .array .int
  | 3 => .array .int
  | _ => .int
def zF1 : u_T := fun k => match k with
  | 0 => ("WaterByLetters$Matching", "climbs", "[I", true)
  | _ => ("WaterByLetters$Matching", "worth", "[I", true)
def zt1 : Nat → FieldType := fun k => match k with
  | 0 => .array .int
  | _ => .array .int
def zF2 : u_T := fun k => match k with
  | 0 => ("WaterByLetters$Orders", "losses", "[I", true)
  | 1 => ("WaterByLetters$Orders", "losers", "[I", true)
  | 2 => ("WaterByLetters$Orders", "least", "[I", true)
  | 3 => ("WaterByLetters$Orders", "demands", "[I", true)
  | 4 => ("WaterByLetters$Orders", "possible", "Z", false)
  | 5 => ("WaterByLetters$Orders", "beginnings", "[I", true)
  | _ => ("WaterByLetters$Orders", "endings", "[I", true)
def zt2 : Nat → FieldType := fun k => match k with
  | 0 => .array .int
  | 1 => .array .int
  | 2 => .array .int
  | 3 => .array .int
  | 4 => .boolean
  | 5 => .array .int
  | _ => .array .int
def zF3 : u_T := fun k => match k with
  | 0 => ("WaterByLetters$Past", "towns", "[LWaterByLetters$Town;", true)
  | 1 => ("WaterByLetters$Past", "next", "I", false)
  | _ => ("WaterByLetters$Past", "size", "I", false)
def zt3 : Nat → FieldType := fun k => match k with
  | 0 => .array (.object "WaterByLetters$Town")
  | 1 => .int
  | _ => .int
def zF4 : u_T := fun k => match k with
  | 0 => ("WaterByLetters$Pump", "thirst", "[I", true)
  | 1 => ("WaterByLetters$Pump", "heat", "[I", true)
  | 2 => ("WaterByLetters$Pump", "heatLength", "I", false)
  | 3 => ("WaterByLetters$Pump", "cups", "[I", true)
  | 4 => ("WaterByLetters$Pump", "left", "I", false)
  | 5 => ("WaterByLetters$Pump", "dryBits", "I", false)
  | 6 => ("WaterByLetters$Pump", "leftOfAll", "I", false)
  | _ => ("WaterByLetters$Pump", "dryBitsOfAll", "I", false)
def zt4 : Nat → FieldType := fun k => match k with
  | 0 => .array .int
  | 1 => .array .int
  | 2 => .int
  | 3 => .array .int
  | 4 => .int
  | 5 => .int
  | 6 => .int
  | _ => .int
def zF5 : u_T := fun k => match k with
  | 0 => ("WaterByLetters$Row", "numbers", "[J", true)
  | _ => ("WaterByLetters$Row", "size", "I", false)
def zt5 : Nat → FieldType := fun k => match k with
  | 0 => .array .long
  | _ => .int
def zF6 : u_T := fun k => match k with
  | 0 => ("WaterByLetters$Rule", "signs", "[I", true)
  | 1 => ("WaterByLetters$Rule", "length", "I", false)
  | 2 => ("WaterByLetters$Rule", "compared", "[I", true)
  | 3 => ("WaterByLetters$Rule", "comparisons", "[I", true)
  | 4 => ("WaterByLetters$Rule", "sums", "[I", true)
  | 5 => ("WaterByLetters$Rule", "addings", "[I", true)
  | 6 => ("WaterByLetters$Rule", "products", "[I", true)
  | 7 => ("WaterByLetters$Rule", "factorings", "[I", true)
  | 8 => ("WaterByLetters$Rule", "negated", "[Z", true)
  | _ => ("WaterByLetters$Rule", "depth", "I", false)
def zt6 : Nat → FieldType := fun k => match k with
  | 0 => .array .int
  | 1 => .int
  | 2 => .array .int
  | 3 => .array .int
  | 4 => .array .int
  | 5 => .array .int
  | 6 => .array .int
  | 7 => .array .int
  | 8 => .array .boolean
  | _ => .int
def zF7 : u_T := fun k => match k with
  | 0 => ("WaterByLetters$Text", "signs", "[I", true)
  | _ => ("WaterByLetters$Text", "length", "I", false)
def zt7 : Nat → FieldType := fun k => match k with
  | 0 => .array .int
  | _ => .int
def zF8 : u_T := fun k => match k with
  | 0 => ("WaterByLetters$Thrift", "best", "[I", true)
  | 1 => ("WaterByLetters$Thrift", "tried", "[I", true)
  | 2 => ("WaterByLetters$Thrift", "sums", "[I", true)
  | 3 => ("WaterByLetters$Thrift", "telling", "[I", true)
  | 4 => ("WaterByLetters$Thrift", "aheadAnyway", "[I", true)
  | _ => ("WaterByLetters$Thrift", "count", "I", false)
def zt8 : Nat → FieldType := fun k => match k with
  | 0 => .array .int
  | 1 => .array .int
  | 2 => .array .int
  | 3 => .array .int
  | 4 => .array .int
  | _ => .int
def zF9 : u_T := fun k => match k with
  | 0 => ("WaterByLetters$Town", "order", "[I", true)
  | 1 => ("WaterByLetters$Town", "names", "[I", true)
  | 2 => ("WaterByLetters$Town", "lengths", "[I", true)
  | 3 => ("WaterByLetters$Town", "dry", "[I", true)
  | 4 => ("WaterByLetters$Town", "had", "[I", true)
  | 5 => ("WaterByLetters$Town", "count", "I", false)
  | _ => ("WaterByLetters$Town", "day", "I", false)
def zt9 : Nat → FieldType := fun k => match k with
  | 0 => .array .int
  | 1 => .array .int
  | 2 => .array .int
  | 3 => .array .int
  | 4 => .array .int
  | 5 => .int
  | _ => .int
def zF10 : u_T := fun k => match k with
  | 0 => ("WaterByLetters", "text", "LWaterByLetters$Text;", true)
  | 1 => ("WaterByLetters", "told", "LWaterByLetters$Row;", true)
  | 2 => ("WaterByLetters", "rule", "LWaterByLetters$Rule;", true)
  | 3 => ("WaterByLetters", "otherRule", "LWaterByLetters$Rule;", true)
  | 4 => ("WaterByLetters", "town", "LWaterByLetters$Town;", true)
  | 5 => ("WaterByLetters", "spare", "LWaterByLetters$Town;", true)
  | 6 => ("WaterByLetters", "book", "LWaterByLetters$Book;", true)
  | 7 => ("WaterByLetters", "otherBook", "LWaterByLetters$Book;", true)
  | 8 => ("WaterByLetters", "pump", "LWaterByLetters$Pump;", true)
  | 9 => ("WaterByLetters", "past", "LWaterByLetters$Past;", true)
  | 10 => ("WaterByLetters", "kept", "[LWaterByLetters$Town;", true)
  | 11 => ("WaterByLetters", "keptBits", "I", false)
  | 12 => ("WaterByLetters", "seenAhead", "[I", true)
  | 13 => ("WaterByLetters", "seenBehind", "[I", true)
  | 14 => ("WaterByLetters", "seen", "I", false)
  | 15 => ("WaterByLetters", "orders", "LWaterByLetters$Orders;", true)
  | 16 => ("WaterByLetters", "thrift", "LWaterByLetters$Thrift;", true)
  | 17 => ("WaterByLetters", "matching", "LWaterByLetters$Matching;", true)
  | 18 => ("WaterByLetters", "draft", "[I", true)
  | _ => ("WaterByLetters", "drawn", "I", false)
def zt10 : Nat → FieldType := fun k => match k with
  | 0 => .object "WaterByLetters$Text"
  | 1 => .object "WaterByLetters$Row"
  | 2 => .object "WaterByLetters$Rule"
  | 3 => .object "WaterByLetters$Rule"
  | 4 => .object "WaterByLetters$Town"
  | 5 => .object "WaterByLetters$Town"
  | 6 => .object "WaterByLetters$Book"
  | 7 => .object "WaterByLetters$Book"
  | 8 => .object "WaterByLetters$Pump"
  | 9 => .object "WaterByLetters$Past"
  | 10 => .array (.object "WaterByLetters$Town")
  | 11 => .int
  | 12 => .array .int
  | 13 => .array .int
  | 14 => .int
  | 15 => .object "WaterByLetters$Orders"
  | 16 => .object "WaterByLetters$Thrift"
  | 17 => .object "WaterByLetters$Matching"
  | 18 => .array .int
  | _ => .int
def zF11 : u_T := fun k => match k with
  | 0 => ("WaterByLettersModel", "thrown", "I", false)
  | 1 => ("WaterByLettersModel", "told", "I", false)
  | 2 => ("WaterByLettersModel", "row", "[J", true)
  | 3 => ("WaterByLettersModel", "houses", "I", false)
  | 4 => ("WaterByLettersModel", "changes", "I", false)
  | 5 => ("WaterByLettersModel", "skyLong", "I", false)
  | 6 => ("WaterByLettersModel", "sky", "[I", true)
  | 7 => ("WaterByLettersModel", "thirst", "[I", true)
  | 8 => ("WaterByLettersModel", "now", "[I", true)
  | 9 => ("WaterByLettersModel", "then", "[I", true)
  | 10 => ("WaterByLettersModel", "tape", "[I", true)
  | 11 => ("WaterByLettersModel", "taped", "I", false)
  | 12 => ("WaterByLettersModel", "at", "I", false)
  | 13 => ("WaterByLettersModel", "to", "I", false)
  | 14 => ("WaterByLettersModel", "nest", "I", false)
  | 15 => ("WaterByLettersModel", "readName", "[I", true)
  | 16 => ("WaterByLettersModel", "readLong", "[I", true)
  | 17 => ("WaterByLettersModel", "readThirst", "[I", true)
  | 18 => ("WaterByLettersModel", "readMany", "I", false)
  | 19 => ("WaterByLettersModel", "readSky", "[I", true)
  | 20 => ("WaterByLettersModel", "code", "[I", true)
  | 21 => ("WaterByLettersModel", "readCode", "[I", true)
  | 22 => ("WaterByLettersModel", "codeLong", "I", false)
  | 23 => ("WaterByLettersModel", "codesRead", "I", false)
  | 24 => ("WaterByLettersModel", "stack", "[I", true)
  | 25 => ("WaterByLettersModel", "asked", "[I", true)
  | 26 => ("WaterByLettersModel", "mine", "[I", true)
  | 27 => ("WaterByLettersModel", "theirs", "[I", true)
  | 28 => ("WaterByLettersModel", "isAhead", "[Z", true)
  | 29 => ("WaterByLettersModel", "rank", "[I", true)
  | 30 => ("WaterByLettersModel", "place", "[I", true)
  | 31 => ("WaterByLettersModel", "book", "[I", true)
  | 32 => ("WaterByLettersModel", "cups", "[I", true)
  | 33 => ("WaterByLettersModel", "undos", "I", false)
  | 34 => ("WaterByLettersModel", "undone", "[I", true)
  | 35 => ("WaterByLettersModel", "leftOver", "I", false)
  | 36 => ("WaterByLettersModel", "readOrder", "[I", true)
  | 37 => ("WaterByLettersModel", "actSign", "[I", true)
  | 38 => ("WaterByLettersModel", "actOne", "[I", true)
  | 39 => ("WaterByLettersModel", "actTwo", "[I", true)
  | 40 => ("WaterByLettersModel", "acts", "I", false)
  | 41 => ("WaterByLettersModel", "turn", "[I", true)
  | 42 => ("WaterByLettersModel", "bestTurn", "[I", true)
  | 43 => ("WaterByLettersModel", "least", "I", false)
  | 44 => ("WaterByLettersModel", "askedHouse", "I", false)
  | 45 => ("WaterByLettersModel", "askedYield", "I", false)
  | 46 => ("WaterByLettersModel", "fitMany", "I", false)
  | 47 => ("WaterByLettersModel", "aheadMany", "[I", true)
  | 48 => ("WaterByLettersModel", "wasPlace", "[I", true)
  | 49 => ("WaterByLettersModel", "climb", "[I", true)
  | 50 => ("WaterByLettersModel", "pairs", "[I", true)
  | 51 => ("WaterByLettersModel", "bestPairs", "[I", true)
  | 52 => ("WaterByLettersModel", "bestClimb", "I", false)
  | 53 => ("WaterByLettersModel", "bestMany", "I", false)
  | 54 => ("WaterByLettersModel", "line", "[I", true)
  | 55 => ("WaterByLettersModel", "share", "[I", true)
  | 56 => ("WaterByLettersModel", "rest", "[I", true)
  | 57 => ("WaterByLettersModel", "seenMany", "I", false)
  | 58 => ("WaterByLettersModel", "seenOne", "[I", true)
  | 59 => ("WaterByLettersModel", "seenOther", "[I", true)
  | 60 => ("WaterByLettersModel", "wasCode", "[I", true)
  | 61 => ("WaterByLettersModel", "random", "I", false)
  | 62 => ("WaterByLettersModel", "isKept", "[Z", true)
  | 63 => ("WaterByLettersModel", "keptChanges", "[I", true)
  | _ => ("WaterByLettersModel", "kept", "[I", true)
def zt11 : Nat → FieldType := fun k => match k with
  | 0 => .int
  | 1 => .int
  | 2 => .array .long
  | 3 => .int
  | 4 => .int
  | 5 => .int
  | 6 => .array .int
  | 7 => .array .int
  | 8 => .array .int
  | 9 => .array .int
  | 10 => .array .int
  | 11 => .int
  | 12 => .int
  | 13 => .int
  | 14 => .int
  | 15 => .array .int
  | 16 => .array .int
  | 17 => .array .int
  | 18 => .int
  | 19 => .array .int
  | 20 => .array .int
  | 21 => .array .int
  | 22 => .int
  | 23 => .int
  | 24 => .array .int
  | 25 => .array .int
  | 26 => .array .int
  | 27 => .array .int
  | 28 => .array .boolean
  | 29 => .array .int
  | 30 => .array .int
  | 31 => .array .int
  | 32 => .array .int
  | 33 => .int
  | 34 => .array .int
  | 35 => .int
  | 36 => .array .int
  | 37 => .array .int
  | 38 => .array .int
  | 39 => .array .int
  | 40 => .int
  | 41 => .array .int
  | 42 => .array .int
  | 43 => .int
  | 44 => .int
  | 45 => .int
  | 46 => .int
  | 47 => .array .int
  | 48 => .array .int
  | 49 => .array .int
  | 50 => .array .int
  | 51 => .array .int
  | 52 => .int
  | 53 => .int
  | 54 => .array .int
  | 55 => .array .int
  | 56 => .array .int
  | 57 => .int
  | 58 => .array .int
  | 59 => .array .int
  | 60 => .array .int
  | 61 => .int
  | 62 => .array .boolean
  | 63 => .array .int
  | _ => .array .int
def z_cl : List vw_C := [("WaterByLetters$Book", zF0, 5), ("WaterByLetters$Matching", zF1, 2), ("WaterByLetters$Orders", zF2, 7), ("WaterByLetters$Past", zF3, 3), ("WaterByLetters$Pump", zF4, 8), ("WaterByLetters$Row", zF5, 2), ("WaterByLetters$Rule", zF6, 10), ("WaterByLetters$Text", zF7, 2), ("WaterByLetters$Thrift", zF8, 6), ("WaterByLetters$Town", zF9, 7), ("WaterByLetters", zF10, 20), ("WaterByLettersModel", zF11, 65)]
def z_tf : List (Nat → FieldType) := [zt0, zt1, zt2, zt3, zt4, zt5, zt6, zt7, zt8, zt9, zt10, zt11]
/-- the fields: type (0 int, 2 boolean, 1 a reference) and, of a reference, how far behind its object its cell lies -/
def z_ft : List (List (Nat × Nat)) := [[(1, 1), (1, 2), (1, 3), (1, 4), (0, 0)],
  [(1, 1), (1, 2)],
  [(1, 1), (1, 2), (1, 3), (1, 4), (2, 0), (1, 5), (1, 6)],
  [(1, 1), (0, 0), (0, 0)],
  [(1, 1), (1, 2), (0, 0), (1, 3), (0, 0), (0, 0), (0, 0), (0, 0)],
  [(1, 1), (0, 0)],
  [(1, 1), (0, 0), (1, 2), (1, 3), (1, 4), (1, 5), (1, 6), (1, 7), (1, 8), (0, 0)],
  [(1, 1), (0, 0)],
  [(1, 1), (1, 2), (1, 3), (1, 4), (1, 5), (0, 0)],
  [(1, 1), (1, 2), (1, 3), (1, 4), (1, 5), (0, 0), (0, 0)],
  [(1, 1), (1, 3), (1, 5), (1, 14), (1, 23), (1, 29), (1, 35), (1, 40), (1, 45), (1, 49), (1, 141), (0, 0), (1, 142), (1, 143), (0, 0), (1, 144), (1, 151), (1, 157), (1, 160), (0, 0)],
  [(0, 0), (0, 0), (1, 1), (0, 0), (0, 0), (0, 0), (1, 2), (1, 3), (1, 4), (1, 5), (1, 6), (0, 0), (0, 0), (0, 0), (0, 0), (1, 7), (1, 8), (1, 9), (0, 0), (1, 10), (1, 11), (1, 12), (0, 0), (0, 0), (1, 13), (1, 14), (1, 15), (1, 16), (1, 17), (1, 18), (1, 19), (1, 20), (1, 21), (0, 0), (1, 22), (0, 0), (1, 23), (1, 24), (1, 25), (1, 26), (0, 0), (1, 27), (1, 28), (0, 0), (0, 0), (0, 0), (0, 0), (1, 29), (1, 30), (1, 31), (1, 32), (1, 33), (0, 0), (0, 0), (1, 34), (1, 35), (1, 36), (0, 0), (1, 37), (1, 38), (1, 39), (0, 0), (1, 40), (1, 41), (1, 42)]]
def z_kt : List zD := [(10, 0), (7, 0), (100, 80), (5, 0), (101, 8), (6, 0), (100, 40), (100, 5), (100, 5), (100, 5), (100, 5), (100, 5), (100, 5), (102, 5), (6, 0), (100, 40), (100, 5), (100, 5), (100, 5), (100, 5), (100, 5), (100, 5), (102, 5), (9, 0), (100, 8), (100, 48), (100, 8), (100, 8), (100, 8), (9, 0), (100, 8), (100, 48), (100, 8), (100, 8), (100, 8), (0, 0), (100, 8), (100, 8), (100, 8), (100, 8), (0, 0), (100, 8), (100, 8), (100, 8), (100, 8), (4, 0), (100, 8), (100, 20), (100, 8), (3, 0), (103, 15), (9, 0), (100, 8), (100, 48), (100, 8), (100, 8), (100, 8), (9, 0), (100, 8), (100, 48), (100, 8), (100, 8), (100, 8), (9, 0), (100, 8), (100, 48), (100, 8), (100, 8), (100, 8), (9, 0), (100, 8), (100, 48), (100, 8), (100, 8), (100, 8), (9, 0), (100, 8), (100, 48), (100, 8), (100, 8), (100, 8), (9, 0), (100, 8), (100, 48), (100, 8), (100, 8), (100, 8), (9, 0), (100, 8), (100, 48), (100, 8), (100, 8), (100, 8), (9, 0), (100, 8), (100, 48), (100, 8), (100, 8), (100, 8), (9, 0), (100, 8), (100, 48), (100, 8), (100, 8), (100, 8), (9, 0), (100, 8), (100, 48), (100, 8), (100, 8), (100, 8), (9, 0), (100, 8), (100, 48), (100, 8), (100, 8), (100, 8), (9, 0), (100, 8), (100, 48), (100, 8), (100, 8), (100, 8), (9, 0), (100, 8), (100, 48), (100, 8), (100, 8), (100, 8), (9, 0), (100, 8), (100, 48), (100, 8), (100, 8), (100, 8), (9, 0), (100, 8), (100, 48), (100, 8), (100, 8), (100, 8), (103, 3), (100, 8), (100, 8), (2, 0), (100, 64), (100, 8), (100, 256), (100, 8), (100, 256), (100, 256), (8, 0), (100, 8), (100, 8), (100, 256), (100, 64), (100, 8), (1, 0), (100, 64), (100, 256), (100, 8), (9, 0), (100, 8), (100, 48), (100, 8), (100, 8), (100, 8), (9, 0), (100, 8), (100, 48), (100, 8), (100, 8), (100, 8), (9, 0), (100, 8), (100, 48), (100, 8), (100, 8), (100, 8), (11, 0), (101, 24), (100, 20), (100, 8), (100, 81), (100, 81), (100, 80), (100, 48), (100, 8), (100, 8), (100, 20), (100, 80), (100, 80), (100, 80), (100, 4), (100, 64), (100, 64), (102, 64), (100, 8), (100, 8), (100, 8), (100, 8), (100, 1296), (100, 8), (100, 60), (100, 60), (100, 60), (100, 8), (100, 8), (100, 64), (100, 8), (100, 64), (100, 8), (100, 8), (100, 8), (100, 8), (100, 8), (100, 8), (100, 8), (100, 80), (102, 3), (100, 3), (100, 243), (101, 1)]
def z_st : List (String × Nat × String) := [("WaterByLettersModel", 213, "abcdefgh"), ("WaterByLettersModel", 225, "123456789"), ("WaterByLettersModel", 264, "hdnt"), ("WaterByLettersModel", 269, "<>="), ("WaterByLettersModel", 271, "+-"), ("WaterByLettersModel", 273, "*/"), ("WaterByLettersModel", 371, "dmrs")]
def z_sl : List Nat := [8, 9, 4, 3, 2, 2, 4]
def z_sb : List (List Int32) := [[97, 98, 99, 100, 101, 102, 103, 104], [49, 50, 51, 52, 53, 54, 55, 56, 57], [104, 100, 110, 116], [60, 62, 61], [43, 45], [42, 47], [100, 109, 114, 115]]
