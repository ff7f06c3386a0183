/-- the words of the tables that stay as they are when the machine goes on -/
def jm_sp : Cond → Bool
  | .methodLinkNest _ _ _ _ => true
  | .castable _ _ => true
  | .arrayOver (.object _) => true
  | w => goodWord w
def jm_tb : List Cond := lw_tbl.filter jm_sp
/-! The classes whose objects the heap holds (tags 0 .. 11), and the methods by their numbers: printed by wip/whole/gen04.py out of the claim's listing. -/
def kc_R0 : String := "FrescoWall$Arranger"
def kc_T0 : u_T := fun k => match k with
  | 0 => ("FrescoWall$Arranger", "fits", "LFrescoWall$Fits;", true)
  | 1 => ("FrescoWall$Arranger", "how", "[J", true)
  | 2 => ("FrescoWall$Arranger", "worth", "[I", true)
  | 3 => ("FrescoWall$Arranger", "size", "[I", true)
  | 4 => ("FrescoWall$Arranger", "bit", "[I", true)
  | 5 => ("FrescoWall$Arranger", "trySecond", "J", false)
  | 6 => ("FrescoWall$Arranger", "tryThird", "J", false)
  | 7 => ("FrescoWall$Arranger", "bestWorth", "I", false)
  | 8 => ("FrescoWall$Arranger", "told", "I", false)
  | 9 => ("FrescoWall$Arranger", "toldSecond", "J", false)
  | _ => ("FrescoWall$Arranger", "toldThird", "J", false)
def kc_y0 : Nat → FieldType := fun k => match k with
  | 0 => .object "FrescoWall$Fits"
  | 1 => .array (.long)
  | 2 => .array (.int)
  | 3 => .array (.int)
  | 4 => .array (.int)
  | 5 => .long
  | 6 => .long
  | 7 => .int
  | 8 => .int
  | 9 => .long
  | _ => .long
def kc_R1 : String := "FrescoWall$Bit"
def kc_T1 : u_T := fun k => match k with
  | 0 => ("FrescoWall$Bit", "thick", "I", true)
  | 1 => ("FrescoWall$Bit", "straw", "I", true)
  | 2 => ("FrescoWall$Bit", "plaster", "I", true)
  | 3 => ("FrescoWall$Bit", "edges", "I", true)
  | 4 => ("FrescoWall$Bit", "cornerX", "[I", true)
  | 5 => ("FrescoWall$Bit", "cornerY", "[I", true)
  | 6 => ("FrescoWall$Bit", "colour", "[I", true)
  | 7 => ("FrescoWall$Bit", "spots", "I", true)
  | 8 => ("FrescoWall$Bit", "spotX", "[I", true)
  | 9 => ("FrescoWall$Bit", "spotY", "[I", true)
  | 10 => ("FrescoWall$Bit", "spotColour", "[I", true)
  | 11 => ("FrescoWall$Bit", "twiceArea", "I", true)
  | 12 => ("FrescoWall$Bit", "cells", "I", true)
  | _ => ("FrescoWall$Bit", "rows", "[J", true)
def kc_y1 : Nat → FieldType := fun k => match k with
  | 0 => .int
  | 1 => .int
  | 2 => .int
  | 3 => .int
  | 4 => .array (.int)
  | 5 => .array (.int)
  | 6 => .array (.int)
  | 7 => .int
  | 8 => .array (.int)
  | 9 => .array (.int)
  | 10 => .array (.int)
  | 11 => .int
  | 12 => .int
  | _ => .array (.long)
def kc_R2 : String := "FrescoWall$Boxes"
def kc_T2 : u_T := fun k => match k with
  | 0 => ("FrescoWall$Boxes", "count", "I", false)
  | 1 => ("FrescoWall$Boxes", "entryBit", "[I", true)
  | 2 => ("FrescoWall$Boxes", "entryBox", "[I", true)
  | 3 => ("FrescoWall$Boxes", "entryDay", "[I", true)
  | 4 => ("FrescoWall$Boxes", "skills", "[I", true)
  | 5 => ("FrescoWall$Boxes", "worth", "[I", true)
  | 6 => ("FrescoWall$Boxes", "most", "[I", true)
  | _ => ("FrescoWall$Boxes", "boxOfHand", "[I", true)
def kc_y2 : Nat → FieldType := fun k => match k with
  | 0 => .int
  | 1 => .array (.int)
  | 2 => .array (.int)
  | 3 => .array (.int)
  | 4 => .array (.int)
  | 5 => .array (.int)
  | 6 => .array (.int)
  | _ => .array (.int)
def kc_R3 : String := "FrescoWall$Fits"
def kc_T3 : u_T := fun k => match k with
  | 0 => ("FrescoWall$Fits", "bits", "[LFrescoWall$Bit;", true)
  | 1 => ("FrescoWall$Fits", "count", "I", false)
  | 2 => ("FrescoWall$Fits", "allowed", "I", false)
  | 3 => ("FrescoWall$Fits", "like", "[I", true)
  | _ => ("FrescoWall$Fits", "keys", "[I", true)
def kc_y3 : Nat → FieldType := fun k => match k with
  | 0 => .array (.object "FrescoWall$Bit")
  | 1 => .int
  | 2 => .int
  | 3 => .array (.int)
  | _ => .array (.int)
def kc_R4 : String := "FrescoWall$Joins"
def kc_T4 : u_T := fun k => match k with
  | 0 => ("FrescoWall$Joins", "bitA", "[I", true)
  | 1 => ("FrescoWall$Joins", "edgeA", "[I", true)
  | 2 => ("FrescoWall$Joins", "bitB", "[I", true)
  | 3 => ("FrescoWall$Joins", "edgeB", "[I", true)
  | 4 => ("FrescoWall$Joins", "made", "I", false)
  | 5 => ("FrescoWall$Joins", "there", "J", false)
  | 6 => ("FrescoWall$Joins", "group", "[I", true)
  | 7 => ("FrescoWall$Joins", "away", "[I", true)
  | _ => ("FrescoWall$Joins", "steps", "[I", true)
def kc_y4 : Nat → FieldType := fun k => match k with
  | 0 => .array (.int)
  | 1 => .array (.int)
  | 2 => .array (.int)
  | 3 => .array (.int)
  | 4 => .int
  | 5 => .long
  | 6 => .array (.int)
  | 7 => .array (.int)
  | _ => .array (.int)
def kc_R5 : String := "FrescoWall$Photo"
def kc_T5 : u_T := fun k => match k with
  | 0 => ("FrescoWall$Photo", "near", "[I", true)
  | 1 => ("FrescoWall$Photo", "width", "I", false)
  | 2 => ("FrescoWall$Photo", "height", "I", false)
  | 3 => ("FrescoWall$Photo", "left", "I", false)
  | 4 => ("FrescoWall$Photo", "low", "I", false)
  | 5 => ("FrescoWall$Photo", "colours", "I", false)
  | 6 => ("FrescoWall$Photo", "bestAgreeing", "I", false)
  | 7 => ("FrescoWall$Photo", "rivals", "I", false)
  | _ => ("FrescoWall$Photo", "bestPlace", "J", false)
def kc_y5 : Nat → FieldType := fun k => match k with
  | 0 => .array (.int)
  | 1 => .int
  | 2 => .int
  | 3 => .int
  | 4 => .int
  | 5 => .int
  | 6 => .int
  | 7 => .int
  | _ => .long
def kc_R6 : String := "FrescoWall$Question"
def kc_T6 : u_T := fun k => match k with
  | 0 => ("FrescoWall$Question", "fits", "LFrescoWall$Fits;", true)
  | 1 => ("FrescoWall$Question", "joins", "LFrescoWall$Joins;", true)
  | 2 => ("FrescoWall$Question", "boxes", "LFrescoWall$Boxes;", true)
  | 3 => ("FrescoWall$Question", "terms", "[I", true)
  | 4 => ("FrescoWall$Question", "factors", "[I", true)
  | 5 => ("FrescoWall$Question", "negated", "[Z", true)
  | 6 => ("FrescoWall$Question", "depth", "I", false)
  | 7 => ("FrescoWall$Question", "all", "I", false)
  | 8 => ("FrescoWall$Question", "standing", "I", false)
  | 9 => ("FrescoWall$Question", "proved", "I", false)
  | _ => ("FrescoWall$Question", "answer", "I", false)
def kc_y6 : Nat → FieldType := fun k => match k with
  | 0 => .object "FrescoWall$Fits"
  | 1 => .object "FrescoWall$Joins"
  | 2 => .object "FrescoWall$Boxes"
  | 3 => .array (.int)
  | 4 => .array (.int)
  | 5 => .array (.boolean)
  | 6 => .int
  | 7 => .int
  | 8 => .int
  | 9 => .int
  | _ => .int
def kc_R7 : String := "FrescoWall$Sketch"
def kc_T7 : u_T := fun k => match k with
  | 0 => ("FrescoWall$Sketch", "tape", "LFrescoWall$Tape;", true)
  | 1 => ("FrescoWall$Sketch", "at", "I", false)
  | 2 => ("FrescoWall$Sketch", "number", "I", false)
  | 3 => ("FrescoWall$Sketch", "corners", "I", false)
  | 4 => ("FrescoWall$Sketch", "x", "[I", true)
  | 5 => ("FrescoWall$Sketch", "y", "[I", true)
  | 6 => ("FrescoWall$Sketch", "colour", "[I", true)
  | 7 => ("FrescoWall$Sketch", "spots", "I", false)
  | 8 => ("FrescoWall$Sketch", "spotX", "[I", true)
  | 9 => ("FrescoWall$Sketch", "spotY", "[I", true)
  | _ => ("FrescoWall$Sketch", "spotColour", "[I", true)
def kc_y7 : Nat → FieldType := fun k => match k with
  | 0 => .object "FrescoWall$Tape"
  | 1 => .int
  | 2 => .int
  | 3 => .int
  | 4 => .array (.int)
  | 5 => .array (.int)
  | 6 => .array (.int)
  | 7 => .int
  | 8 => .array (.int)
  | 9 => .array (.int)
  | _ => .array (.int)
def kc_R8 : String := "FrescoWall$Tape"
def kc_T8 : u_T := fun k => match k with
  | 0 => ("FrescoWall$Tape", "size", "I", false)
  | _ => ("FrescoWall$Tape", "bytes", "[B", true)
def kc_y8 : Nat → FieldType := fun k => match k with
  | 0 => .int
  | _ => .array (.byte)
def kc_R9 : String := "FrescoWall$Wall"
def kc_T9 : u_T := fun k => match k with
  | 0 => ("FrescoWall$Wall", "fits", "LFrescoWall$Fits;", true)
  | 1 => ("FrescoWall$Wall", "joins", "LFrescoWall$Joins;", true)
  | 2 => ("FrescoWall$Wall", "place", "[J", true)
  | 3 => ("FrescoWall$Wall", "words", "I", false)
  | 4 => ("FrescoWall$Wall", "puts", "I", false)
  | 5 => ("FrescoWall$Wall", "clashKind", "I", false)
  | 6 => ("FrescoWall$Wall", "clashFirst", "I", false)
  | 7 => ("FrescoWall$Wall", "clashSecond", "I", false)
  | 8 => ("FrescoWall$Wall", "clashSize", "I", false)
  | _ => ("FrescoWall$Wall", "clashJoins", "[I", true)
def kc_y9 : Nat → FieldType := fun k => match k with
  | 0 => .object "FrescoWall$Fits"
  | 1 => .object "FrescoWall$Joins"
  | 2 => .array (.long)
  | 3 => .int
  | 4 => .int
  | 5 => .int
  | 6 => .int
  | 7 => .int
  | 8 => .int
  | _ => .array (.int)
def kc_R10 : String := "FrescoWall"
def kc_T10 : u_T := fun k => match k with
  | 0 => ("FrescoWall", "tape", "LFrescoWall$Tape;", true)
  | 1 => ("FrescoWall", "sketch", "LFrescoWall$Sketch;", true)
  | 2 => ("FrescoWall", "matcher", "LFrescoWall$Fits;", true)
  | 3 => ("FrescoWall", "joins", "LFrescoWall$Joins;", true)
  | 4 => ("FrescoWall", "wall", "LFrescoWall$Wall;", true)
  | 5 => ("FrescoWall", "photo", "LFrescoWall$Photo;", true)
  | 6 => ("FrescoWall", "arranger", "LFrescoWall$Arranger;", true)
  | 7 => ("FrescoWall", "boxes", "LFrescoWall$Boxes;", true)
  | _ => ("FrescoWall", "question", "LFrescoWall$Question;", true)
def kc_y10 : Nat → FieldType := fun k => match k with
  | 0 => .object "FrescoWall$Tape"
  | 1 => .object "FrescoWall$Sketch"
  | 2 => .object "FrescoWall$Fits"
  | 3 => .object "FrescoWall$Joins"
  | 4 => .object "FrescoWall$Wall"
  | 5 => .object "FrescoWall$Photo"
  | 6 => .object "FrescoWall$Arranger"
  | 7 => .object "FrescoWall$Boxes"
  | _ => .object "FrescoWall$Question"
def kc_R11 : String := "FrescoWallModel"
def kc_T11 : u_T := fun k => match k with
  | 0 => ("FrescoWallModel", "thrown", "I", false)
  | 1 => ("FrescoWallModel", "tape", "[I", true)
  | 2 => ("FrescoWallModel", "taped", "I", false)
  | 3 => ("FrescoWallModel", "bits", "I", false)
  | 4 => ("FrescoWallModel", "corners", "[I", true)
  | 5 => ("FrescoWallModel", "cx", "[I", true)
  | 6 => ("FrescoWallModel", "cy", "[I", true)
  | 7 => ("FrescoWallModel", "colour", "[I", true)
  | 8 => ("FrescoWallModel", "spots", "[I", true)
  | 9 => ("FrescoWallModel", "sx", "[I", true)
  | 10 => ("FrescoWallModel", "sy", "[I", true)
  | 11 => ("FrescoWallModel", "sc", "[I", true)
  | 12 => ("FrescoWallModel", "thick", "[I", true)
  | 13 => ("FrescoWallModel", "straw", "[I", true)
  | 14 => ("FrescoWallModel", "plaster", "[I", true)
  | 15 => ("FrescoWallModel", "cells", "[I", true)
  | 16 => ("FrescoWallModel", "area", "[I", true)
  | 17 => ("FrescoWallModel", "cellX", "[I", true)
  | 18 => ("FrescoWallModel", "cellY", "[I", true)
  | 19 => ("FrescoWallModel", "has", "[Z", true)
  | 20 => ("FrescoWallModel", "tolerance", "I", false)
  | 21 => ("FrescoWallModel", "likeness", "[I", true)
  | 22 => ("FrescoWallModel", "turnOf", "[I", true)
  | 23 => ("FrescoWallModel", "over", "[I", true)
  | 24 => ("FrescoWallModel", "joins", "I", false)
  | 25 => ("FrescoWallModel", "joinA", "[I", true)
  | 26 => ("FrescoWallModel", "edgeA", "[I", true)
  | 27 => ("FrescoWallModel", "joinB", "[I", true)
  | 28 => ("FrescoWallModel", "edgeB", "[I", true)
  | 29 => ("FrescoWallModel", "isJoined", "[Z", true)
  | 30 => ("FrescoWallModel", "hasWord", "[Z", true)
  | 31 => ("FrescoWallModel", "isPut", "[Z", true)
  | 32 => ("FrescoWallModel", "wallT", "[I", true)
  | 33 => ("FrescoWallModel", "wallX", "[I", true)
  | 34 => ("FrescoWallModel", "wallY", "[I", true)
  | 35 => ("FrescoWallModel", "clash", "I", false)
  | 36 => ("FrescoWallModel", "clashes", "I", false)
  | 37 => ("FrescoWallModel", "clashOne", "I", false)
  | 38 => ("FrescoWallModel", "clashTwo", "I", false)
  | 39 => ("FrescoWallModel", "clashJoin", "[I", true)
  | 40 => ("FrescoWallModel", "spot", "I", false)
  | 41 => ("FrescoWallModel", "isWrong", "Z", false)
  | 42 => ("FrescoWallModel", "fitted", "I", false)
  | 43 => ("FrescoWallModel", "fitList", "[I", true)
  | 44 => ("FrescoWallModel", "fitScore", "[I", true)
  | 45 => ("FrescoWallModel", "root", "[I", true)
  | 46 => ("FrescoWallModel", "gt", "[I", true)
  | 47 => ("FrescoWallModel", "gx", "[I", true)
  | 48 => ("FrescoWallModel", "gy", "[I", true)
  | 49 => ("FrescoWallModel", "pt", "I", false)
  | 50 => ("FrescoWallModel", "px", "I", false)
  | 51 => ("FrescoWallModel", "py", "I", false)
  | 52 => ("FrescoWallModel", "isBest", "[Z", true)
  | 53 => ("FrescoWallModel", "far", "[I", true)
  | 54 => ("FrescoWallModel", "way", "[I", true)
  | 55 => ("FrescoWallModel", "ways", "I", false)
  | 56 => ("FrescoWallModel", "ot", "[I", true)
  | 57 => ("FrescoWallModel", "ox", "[I", true)
  | 58 => ("FrescoWallModel", "oy", "[I", true)
  | 59 => ("FrescoWallModel", "wide", "I", false)
  | 60 => ("FrescoWallModel", "high", "I", false)
  | 61 => ("FrescoWallModel", "photoX", "I", false)
  | 62 => ("FrescoWallModel", "photoY", "I", false)
  | 63 => ("FrescoWallModel", "doubt", "I", false)
  | 64 => ("FrescoWallModel", "photo", "[I", true)
  | 65 => ("FrescoWallModel", "newPhoto", "[I", true)
  | 66 => ("FrescoWallModel", "rowLong", "I", false)
  | 67 => ("FrescoWallModel", "rowMany", "I", false)
  | 68 => ("FrescoWallModel", "three", "[I", true)
  | 69 => ("FrescoWallModel", "at3", "[I", true)
  | 70 => ("FrescoWallModel", "ax3", "[I", true)
  | 71 => ("FrescoWallModel", "ay3", "[I", true)
  | 72 => ("FrescoWallModel", "threeMany", "I", false)
  | 73 => ("FrescoWallModel", "bestWorth", "I", false)
  | 74 => ("FrescoWallModel", "bestT", "[I", true)
  | 75 => ("FrescoWallModel", "bestX", "[I", true)
  | 76 => ("FrescoWallModel", "bestY", "[I", true)
  | 77 => ("FrescoWallModel", "arrangedMany", "I", false)
  | 78 => ("FrescoWallModel", "arrangedBit", "[I", true)
  | 79 => ("FrescoWallModel", "arrangedT", "[I", true)
  | 80 => ("FrescoWallModel", "arrangedX", "[I", true)
  | 81 => ("FrescoWallModel", "arrangedY", "[I", true)
  | 82 => ("FrescoWallModel", "isProved", "[Z", true)
  | 83 => ("FrescoWallModel", "isThere", "[Z", true)
  | 84 => ("FrescoWallModel", "askedMany", "I", false)
  | 85 => ("FrescoWallModel", "askedBit", "[I", true)
  | 86 => ("FrescoWallModel", "asker", "I", false)
  | 87 => ("FrescoWallModel", "entries", "I", false)
  | 88 => ("FrescoWallModel", "entryBit", "[I", true)
  | 89 => ("FrescoWallModel", "entryBox", "[I", true)
  | 90 => ("FrescoWallModel", "entryDay", "[I", true)
  | 91 => ("FrescoWallModel", "skill", "[I", true)
  | 92 => ("FrescoWallModel", "worth", "[I", true)
  | 93 => ("FrescoWallModel", "most", "[I", true)
  | _ => ("FrescoWallModel", "shared", "[I", true)
def kc_y11 : Nat → FieldType := fun k => match k with
  | 0 => .int
  | 1 => .array (.int)
  | 2 => .int
  | 3 => .int
  | 4 => .array (.int)
  | 5 => .array (.int)
  | 6 => .array (.int)
  | 7 => .array (.int)
  | 8 => .array (.int)
  | 9 => .array (.int)
  | 10 => .array (.int)
  | 11 => .array (.int)
  | 12 => .array (.int)
  | 13 => .array (.int)
  | 14 => .array (.int)
  | 15 => .array (.int)
  | 16 => .array (.int)
  | 17 => .array (.int)
  | 18 => .array (.int)
  | 19 => .array (.boolean)
  | 20 => .int
  | 21 => .array (.int)
  | 22 => .array (.int)
  | 23 => .array (.int)
  | 24 => .int
  | 25 => .array (.int)
  | 26 => .array (.int)
  | 27 => .array (.int)
  | 28 => .array (.int)
  | 29 => .array (.boolean)
  | 30 => .array (.boolean)
  | 31 => .array (.boolean)
  | 32 => .array (.int)
  | 33 => .array (.int)
  | 34 => .array (.int)
  | 35 => .int
  | 36 => .int
  | 37 => .int
  | 38 => .int
  | 39 => .array (.int)
  | 40 => .int
  | 41 => .boolean
  | 42 => .int
  | 43 => .array (.int)
  | 44 => .array (.int)
  | 45 => .array (.int)
  | 46 => .array (.int)
  | 47 => .array (.int)
  | 48 => .array (.int)
  | 49 => .int
  | 50 => .int
  | 51 => .int
  | 52 => .array (.boolean)
  | 53 => .array (.int)
  | 54 => .array (.int)
  | 55 => .int
  | 56 => .array (.int)
  | 57 => .array (.int)
  | 58 => .array (.int)
  | 59 => .int
  | 60 => .int
  | 61 => .int
  | 62 => .int
  | 63 => .int
  | 64 => .array (.int)
  | 65 => .array (.int)
  | 66 => .int
  | 67 => .int
  | 68 => .array (.int)
  | 69 => .array (.int)
  | 70 => .array (.int)
  | 71 => .array (.int)
  | 72 => .int
  | 73 => .int
  | 74 => .array (.int)
  | 75 => .array (.int)
  | 76 => .array (.int)
  | 77 => .int
  | 78 => .array (.int)
  | 79 => .array (.int)
  | 80 => .array (.int)
  | 81 => .array (.int)
  | 82 => .array (.boolean)
  | 83 => .array (.boolean)
  | 84 => .int
  | 85 => .array (.int)
  | 86 => .int
  | 87 => .int
  | 88 => .array (.int)
  | 89 => .array (.int)
  | 90 => .array (.int)
  | 91 => .array (.int)
  | 92 => .array (.int)
  | 93 => .array (.int)
  | _ => .array (.int)
abbrev jm_cls : List vw_C := [(kc_R0, kc_T0, 11), (kc_R1, kc_T1, 14), (kc_R2, kc_T2, 8), (kc_R3, kc_T3, 5), (kc_R4, kc_T4, 9), (kc_R5, kc_T5, 9), (kc_R6, kc_T6, 11), (kc_R7, kc_T7, 11), (kc_R8, kc_T8, 2), (kc_R9, kc_T9, 10), (kc_R10, kc_T10, 9), (kc_R11, kc_T11, 95)]
def jm_kd (ci : Nat) : List Nat := match ci with
  | 0 => [2, 2, 2, 2, 2, 1, 1, 0, 0, 1, 1]
  | 1 => [0, 0, 0, 0, 2, 2, 2, 0, 2, 2, 2, 0, 0, 2]
  | 2 => [0, 2, 2, 2, 2, 2, 2, 2]
  | 3 => [2, 0, 0, 2, 2]
  | 4 => [2, 2, 2, 2, 0, 1, 2, 2, 2]
  | 5 => [2, 0, 0, 0, 0, 0, 0, 0, 1]
  | 6 => [2, 2, 2, 2, 2, 2, 0, 0, 0, 0, 0]
  | 7 => [2, 0, 0, 0, 2, 2, 2, 0, 2, 2, 2]
  | 8 => [0, 2]
  | 9 => [2, 2, 2, 0, 0, 0, 0, 0, 0, 2]
  | 10 => [2, 2, 2, 2, 2, 2, 2, 2, 2]
  | 11 => [0, 2, 0, 0, 2, 2, 2, 2, 2, 2, 2, 2, 2, 2, 2, 2, 2, 2, 2, 2, 0, 2, 2, 2, 0, 2, 2, 2, 2, 2, 2, 2, 2, 2, 2, 0, 0, 0, 0, 2, 0, 3, 0, 2, 2, 2, 2, 2, 2, 0, 0, 0, 2, 2, 2, 0, 2, 2, 2, 0, 0, 0, 0, 0, 2, 2, 0, 0, 2, 2, 2, 2, 0, 0, 2, 2, 2, 0, 2, 2, 2, 2, 2, 2, 0, 2, 0, 0, 2, 2, 2, 2, 2, 2, 2]
  | _ => []
/-- what is known of a class: its place, its words among the tables', its fields' types and names -/
def kc_ok (ci : Nat) (C : String) (T : u_T) (N : Nat) (ty : Nat → FieldType) : Prop := jm_cls[ci]? = some (C, T, N) ∧ (∀ w ∈ u_ws C T N, w ∈ jm_tb) ∧ (∀ k, k < N → parseFieldDescriptor (T k).2.2.1 = some (ty k)) ∧ (∀ a, a < N → ∀ b, b < N → a ≠ b → (T a).2.1 ≠ (T b).2.1) ∧ ci < 12 ∧ (∀ k, k < N → (T k).1 = C) ∧ (jm_kd ci).length = N
theorem kc_tb {w : Cond} (i : Nat) (h : tables_1[i]? = some w) (hs : jm_sp w = true := by rfl) : w ∈ jm_tb := List.mem_filter.mpr ⟨List.mem_append_right _ (List.mem_of_getElem? h), hs⟩
theorem kc_tbs {ws : List Cond} (is : List Nat) (h : ws = is.filterMap (fun i => tables_1[i]?)) (hs : ws.all jm_sp = true) : ∀ w ∈ ws, w ∈ jm_tb := by
  intro w hw
  have hsw := List.all_eq_true.mp hs w hw
  rw [h] at hw
  obtain ⟨i, -, hi⟩ := List.mem_filterMap.mp hw
  exact kc_tb i hi hsw
set_option maxRecDepth 100000 in
theorem kc_ok0 : kc_ok 0 kc_R0 kc_T0 11 kc_y0 := ⟨rfl, kc_tbs [282, 284, 286, 288, 290, 292, 294, 296, 298, 300, 302] (by decide +kernel) (by decide +kernel), by decide +kernel, by decide +kernel, by decide, by decide +kernel, rfl⟩
set_option maxRecDepth 100000 in
theorem kc_ok1 : kc_ok 1 kc_R1 kc_T1 14 kc_y1 := ⟨rfl, kc_tbs [577, 579, 581, 583, 585, 587, 589, 591, 593, 595, 597, 599, 601, 603] (by decide +kernel) (by decide +kernel), by decide +kernel, by decide +kernel, by decide, by decide +kernel, rfl⟩
set_option maxRecDepth 100000 in
theorem kc_ok2 : kc_ok 2 kc_R2 kc_T2 8 kc_y2 := ⟨rfl, kc_tbs [322, 324, 326, 328, 330, 332, 334, 336] (by decide +kernel) (by decide +kernel), by decide +kernel, by decide +kernel, by decide, by decide +kernel, rfl⟩
set_option maxRecDepth 100000 in
theorem kc_ok3 : kc_ok 3 kc_R3 kc_T3 5 kc_y3 := ⟨rfl, kc_tbs [117, 119, 121, 123, 125] (by decide +kernel) (by decide +kernel), by decide +kernel, by decide +kernel, by decide, by decide +kernel, rfl⟩
set_option maxRecDepth 100000 in
theorem kc_ok4 : kc_ok 4 kc_R4 kc_T4 9 kc_y4 := ⟨rfl, kc_tbs [161, 163, 165, 167, 169, 171, 173, 175, 177] (by decide +kernel) (by decide +kernel), by decide +kernel, by decide +kernel, by decide, by decide +kernel, rfl⟩
set_option maxRecDepth 100000 in
theorem kc_ok5 : kc_ok 5 kc_R5 kc_T5 9 kc_y5 := ⟨rfl, kc_tbs [245, 247, 249, 251, 253, 255, 257, 259, 261] (by decide +kernel) (by decide +kernel), by decide +kernel, by decide +kernel, by decide, by decide +kernel, rfl⟩
set_option maxRecDepth 100000 in
theorem kc_ok6 : kc_ok 6 kc_R6 kc_T6 11 kc_y6 := ⟨rfl, kc_tbs [357, 359, 361, 363, 365, 367, 369, 371, 373, 375, 377] (by decide +kernel) (by decide +kernel), by decide +kernel, by decide +kernel, by decide, by decide +kernel, rfl⟩
set_option maxRecDepth 100000 in
theorem kc_ok7 : kc_ok 7 kc_R7 kc_T7 11 kc_y7 := ⟨rfl, kc_tbs [68, 70, 72, 74, 76, 78, 80, 82, 84, 86, 88] (by decide +kernel) (by decide +kernel), by decide +kernel, by decide +kernel, by decide, by decide +kernel, rfl⟩
set_option maxRecDepth 100000 in
theorem kc_ok8 : kc_ok 8 kc_R8 kc_T8 2 kc_y8 := ⟨rfl, kc_tbs [37, 39] (by decide +kernel) (by decide +kernel), by decide +kernel, by decide +kernel, by decide, by decide +kernel, rfl⟩
set_option maxRecDepth 100000 in
theorem kc_ok9 : kc_ok 9 kc_R9 kc_T9 10 kc_y9 := ⟨rfl, kc_tbs [205, 207, 209, 211, 213, 215, 217, 219, 221, 223] (by decide +kernel) (by decide +kernel), by decide +kernel, by decide +kernel, by decide, by decide +kernel, rfl⟩
set_option maxRecDepth 100000 in
theorem kc_ok10 : kc_ok 10 kc_R10 kc_T10 9 kc_y10 := ⟨rfl, kc_tbs [390, 392, 394, 396, 398, 400, 402, 404, 406] (by decide +kernel) (by decide +kernel), by decide +kernel, by decide +kernel, by decide, by decide +kernel, rfl⟩
set_option maxRecDepth 100000 in
theorem kc_ok11 : kc_ok 11 kc_R11 kc_T11 95 kc_y11 := ⟨rfl, kc_tbs [1359, 1361, 1363, 1365, 1367, 1369, 1371, 1373, 1375, 1377, 1379, 1381, 1383, 1385, 1387, 1389, 1391, 1393, 1395, 1397, 1399, 1401, 1403, 1405, 1407, 1409, 1411, 1413, 1415, 1417, 1419, 1421, 1423, 1425, 1427, 1429, 1431, 1433, 1435, 1437, 1439, 1441, 1443, 1445, 1447, 1449, 1451, 1453, 1455, 1457, 1459, 1461, 1463, 1465, 1467, 1469, 1471, 1473, 1475, 1477, 1479, 1481, 1483, 1485, 1487, 1489, 1491, 1493, 1495, 1497, 1499, 1501, 1503, 1505, 1507, 1509, 1511, 1513, 1515, 1517, 1519, 1521, 1523, 1525, 1527, 1529, 1531, 1533, 1535, 1537, 1539, 1541, 1543, 1545, 1547] (by decide +kernel) (by decide +kernel), by decide +kernel, by decide +kernel, by decide, by decide +kernel, rfl⟩
/-- the methods: name, bytes, locals, what is returned -/
abbrev km_T : Type := MethodName × ByteArray × Nat × Option FieldType
def km_t0 (k : Nat) : km_T := match k with
  | 0 => (({ cls := "FrescoWall$Arranger", name := "<init>", desc := "(LFrescoWall$Fits;)V" } : Jvm.MethodName), prog_2_method_1_code, 2, (Option.none : Option Jvm.ClassFile.FieldType))
  | 1 => (({ cls := "FrescoWall$Arranger", name := "holds", desc := "(I)Z" } : Jvm.MethodName), prog_2_method_2_code, 2, (Option.some Jvm.ClassFile.FieldType.boolean))
  | 2 => (({ cls := "FrescoWall$Arranger", name := "placeOf", desc := "(I)J" } : Jvm.MethodName), prog_2_method_3_code, 3, (Option.some Jvm.ClassFile.FieldType.long))
  | 3 => (({ cls := "FrescoWall$Arranger", name := "solve", desc := "(I)Z" } : Jvm.MethodName), prog_2_method_4_code, 4, (Option.some Jvm.ClassFile.FieldType.boolean))
  | 4 => (({ cls := "FrescoWall$Arranger", name := "list", desc := "(III)V" } : Jvm.MethodName), prog_2_method_5_code, 8, (Option.none : Option Jvm.ClassFile.FieldType))
  | 5 => (({ cls := "FrescoWall$Arranger", name := "enlist", desc := "(IJI)V" } : Jvm.MethodName), prog_2_method_6_code, 6, (Option.none : Option Jvm.ClassFile.FieldType))
  | 6 => (({ cls := "FrescoWall$Arranger", name := "indexOf", desc := "(IJ)I" } : Jvm.MethodName), prog_2_method_7_code, 6, (Option.some Jvm.ClassFile.FieldType.int))
  | 7 => (({ cls := "FrescoWall$Arranger", name := "solveTwo", desc := "()V" } : Jvm.MethodName), prog_2_method_8_code, 2, (Option.none : Option Jvm.ClassFile.FieldType))
  | 8 => (({ cls := "FrescoWall$Arranger", name := "solveThree", desc := "()V" } : Jvm.MethodName), prog_2_method_9_code, 9, (Option.none : Option Jvm.ClassFile.FieldType))
  | 9 => (({ cls := "FrescoWall$Arranger", name := "consider", desc := "(JJ)V" } : Jvm.MethodName), prog_2_method_10_code, 10, (Option.none : Option Jvm.ClassFile.FieldType))
  | 10 => (({ cls := "FrescoWall$Arranger", name := "worthAt", desc := "(I)I" } : Jvm.MethodName), prog_2_method_11_code, 2, (Option.some Jvm.ClassFile.FieldType.int))
  | 11 => (({ cls := "FrescoWall$Arranger", name := "isBetter", desc := "(IJJ)Z" } : Jvm.MethodName), prog_2_method_12_code, 6, (Option.some Jvm.ClassFile.FieldType.boolean))
  | 12 => (({ cls := "FrescoWall$Arranger", name := "offer", desc := "(IJJ)V" } : Jvm.MethodName), prog_2_method_13_code, 6, (Option.none : Option Jvm.ClassFile.FieldType))
  | 13 => (({ cls := "FrescoWall$Bit", name := "<init>", desc := "(LFrescoWall$Sketch;III)V" } : Jvm.MethodName), prog_3_method_1_code, 10, (Option.none : Option Jvm.ClassFile.FieldType))
  | 14 => (({ cls := "FrescoWall$Bit", name := "markCell", desc := "(II)V" } : Jvm.MethodName), prog_3_method_2_code, 5, (Option.none : Option Jvm.ClassFile.FieldType))
  | 15 => (({ cls := "FrescoWall$Bit", name := "next", desc := "(I)I" } : Jvm.MethodName), prog_3_method_3_code, 2, (Option.some Jvm.ClassFile.FieldType.int))
  | 16 => (({ cls := "FrescoWall$Bit", name := "common", desc := "(ILFrescoWall$Bit;III)I" } : Jvm.MethodName), prog_3_method_4_code, 13, (Option.some Jvm.ClassFile.FieldType.int))
  | 17 => (({ cls := "FrescoWall$Bit", name := "hasCell", desc := "(IJJ)Z" } : Jvm.MethodName), prog_3_method_5_code, 6, (Option.some Jvm.ClassFile.FieldType.boolean))
  | 18 => (({ cls := "FrescoWall$Bit", name := "turnFor", desc := "(ILFrescoWall$Bit;I)I" } : Jvm.MethodName), prog_3_method_6_code, 10, (Option.some Jvm.ClassFile.FieldType.int))
  | 19 => (({ cls := "FrescoWall$Boxes", name := "<init>", desc := "()V" } : Jvm.MethodName), prog_4_method_1_code, 1, (Option.none : Option Jvm.ClassFile.FieldType))
  | 20 => (({ cls := "FrescoWall$Boxes", name := "isFull", desc := "()Z" } : Jvm.MethodName), prog_4_method_2_code, 1, (Option.some Jvm.ClassFile.FieldType.boolean))
  | 21 => (({ cls := "FrescoWall$Boxes", name := "addEntry", desc := "(III)I" } : Jvm.MethodName), prog_4_method_3_code, 4, (Option.some Jvm.ClassFile.FieldType.int))
  | 22 => (({ cls := "FrescoWall$Boxes", name := "boxOf", desc := "(III)I" } : Jvm.MethodName), prog_4_method_4_code, 7, (Option.some Jvm.ClassFile.FieldType.int))
  | 23 => (({ cls := "FrescoWall$Boxes", name := "boxNow", desc := "(I)I" } : Jvm.MethodName), prog_4_method_5_code, 2, (Option.some Jvm.ClassFile.FieldType.int))
  | 24 => (({ cls := "FrescoWall$Boxes", name := "shareOut", desc := "(LFrescoWall$Fits;)I" } : Jvm.MethodName), prog_4_method_6_code, 5, (Option.some Jvm.ClassFile.FieldType.int))
  | 25 => (({ cls := "FrescoWall$Boxes", name := "weigh", desc := "(LFrescoWall$Fits;)V" } : Jvm.MethodName), prog_4_method_7_code, 5, (Option.none : Option Jvm.ClassFile.FieldType))
  | 26 => (({ cls := "FrescoWall$Boxes", name := "mostFor", desc := "(II)I" } : Jvm.MethodName), prog_4_method_8_code, 5, (Option.some Jvm.ClassFile.FieldType.int))
  | 27 => (({ cls := "FrescoWall$Boxes", name := "worthWith", desc := "(III)I" } : Jvm.MethodName), prog_4_method_9_code, 4, (Option.some Jvm.ClassFile.FieldType.int))
  | 28 => (({ cls := "FrescoWall$Boxes", name := "choose", desc := "(II)I" } : Jvm.MethodName), prog_4_method_10_code, 4, (Option.some Jvm.ClassFile.FieldType.int))
  | 29 => (({ cls := "FrescoWall$Fits", name := "<init>", desc := "()V" } : Jvm.MethodName), prog_5_method_1_code, 2, (Option.none : Option Jvm.ClassFile.FieldType))
  | 30 => (({ cls := "FrescoWall$Fits", name := "addBit", desc := "(LFrescoWall$Bit;)V" } : Jvm.MethodName), prog_5_method_2_code, 2, (Option.none : Option Jvm.ClassFile.FieldType))
  | 31 => (({ cls := "FrescoWall$Fits", name := "allBits", desc := "()I" } : Jvm.MethodName), prog_5_method_3_code, 1, (Option.some Jvm.ClassFile.FieldType.int))
  | 32 => (({ cls := "FrescoWall$Fits", name := "fitting", desc := "(IIII)J" } : Jvm.MethodName), prog_5_method_4_code, 11, (Option.some Jvm.ClassFile.FieldType.long))
  | 33 => (({ cls := "FrescoWall$Fits", name := "scoreOf", desc := "(IIIII)I" } : Jvm.MethodName), prog_5_method_5_code, 9, (Option.some Jvm.ClassFile.FieldType.int))
  | 34 => (({ cls := "FrescoWall$Fits", name := "collect", desc := "(II)I" } : Jvm.MethodName), prog_5_method_6_code, 8, (Option.some Jvm.ClassFile.FieldType.int))
  | 35 => (({ cls := "FrescoWall$Fits", name := "keyOf", desc := "(III)I" } : Jvm.MethodName), prog_5_method_7_code, 3, (Option.some Jvm.ClassFile.FieldType.int))
  | 36 => (({ cls := "FrescoWall$Fits", name := "insert", desc := "(II)V" } : Jvm.MethodName), prog_5_method_8_code, 4, (Option.none : Option Jvm.ClassFile.FieldType))
  | 37 => (({ cls := "FrescoWall$Fits", name := "rivalOf", desc := "(IIII)I" } : Jvm.MethodName), prog_5_method_9_code, 13, (Option.some Jvm.ClassFile.FieldType.int))
  | 38 => (({ cls := "FrescoWall$Fits", name := "isBestBothWays", desc := "(IIII)Z" } : Jvm.MethodName), prog_5_method_10_code, 5, (Option.some Jvm.ClassFile.FieldType.boolean))
  | _ => (({ cls := "FrescoWall$Fits", name := "collide", desc := "(IJIJ)Z" } : Jvm.MethodName), prog_5_method_11_code, 9, (Option.some Jvm.ClassFile.FieldType.boolean))
def km_t1 (k : Nat) : km_T := match k with
  | 0 => (({ cls := "FrescoWall$Joins", name := "<init>", desc := "()V" } : Jvm.MethodName), prog_6_method_1_code, 1, (Option.none : Option Jvm.ClassFile.FieldType))
  | 1 => (({ cls := "FrescoWall$Joins", name := "addBit", desc := "(I)V" } : Jvm.MethodName), prog_6_method_2_code, 2, (Option.none : Option Jvm.ClassFile.FieldType))
  | 2 => (({ cls := "FrescoWall$Joins", name := "isThere", desc := "(I)Z" } : Jvm.MethodName), prog_6_method_3_code, 2, (Option.some Jvm.ClassFile.FieldType.boolean))
  | 3 => (({ cls := "FrescoWall$Joins", name := "isIn", desc := "(JI)Z" } : Jvm.MethodName), prog_6_method_4_code, 3, (Option.some Jvm.ClassFile.FieldType.boolean))
  | 4 => (({ cls := "FrescoWall$Joins", name := "isTaken", desc := "(II)Z" } : Jvm.MethodName), prog_6_method_5_code, 6, (Option.some Jvm.ClassFile.FieldType.boolean))
  | 5 => (({ cls := "FrescoWall$Joins", name := "add", desc := "(IIII)I" } : Jvm.MethodName), prog_6_method_6_code, 6, (Option.some Jvm.ClassFile.FieldType.int))
  | 6 => (({ cls := "FrescoWall$Joins", name := "remove", desc := "(I)V" } : Jvm.MethodName), prog_6_method_7_code, 2, (Option.none : Option Jvm.ClassFile.FieldType))
  | 7 => (({ cls := "FrescoWall$Joins", name := "regroup", desc := "(I)V" } : Jvm.MethodName), prog_6_method_8_code, 3, (Option.none : Option Jvm.ClassFile.FieldType))
  | 8 => (({ cls := "FrescoWall$Joins", name := "reach", desc := "(IJ)I" } : Jvm.MethodName), prog_6_method_9_code, 9, (Option.some Jvm.ClassFile.FieldType.int))
  | 9 => (({ cls := "FrescoWall$Joins", name := "countAt", desc := "(I)I" } : Jvm.MethodName), prog_6_method_10_code, 4, (Option.some Jvm.ClassFile.FieldType.int))
  | 10 => (({ cls := "FrescoWall$Joins", name := "countIn", desc := "(I)I" } : Jvm.MethodName), prog_6_method_11_code, 4, (Option.some Jvm.ClassFile.FieldType.int))
  | 11 => (({ cls := "FrescoWall$Joins", name := "countGroups", desc := "(I)I" } : Jvm.MethodName), prog_6_method_12_code, 4, (Option.some Jvm.ClassFile.FieldType.int))
  | 12 => (({ cls := "FrescoWall$Joins", name := "measure", desc := "(IJ)V" } : Jvm.MethodName), prog_6_method_13_code, 6, (Option.none : Option Jvm.ClassFile.FieldType))
  | 13 => (({ cls := "FrescoWall$Joins", name := "spread", desc := "(III)V" } : Jvm.MethodName), prog_6_method_14_code, 4, (Option.none : Option Jvm.ClassFile.FieldType))
  | 14 => (({ cls := "FrescoWall$Joins", name := "walk", desc := "(IJ)I" } : Jvm.MethodName), prog_6_method_15_code, 9, (Option.some Jvm.ClassFile.FieldType.int))
  | 15 => (({ cls := "FrescoWall$Joins", name := "otherEnd", desc := "(II)I" } : Jvm.MethodName), prog_6_method_16_code, 3, (Option.some Jvm.ClassFile.FieldType.int))
  | 16 => (({ cls := "FrescoWall$Photo", name := "<init>", desc := "()V" } : Jvm.MethodName), prog_7_method_1_code, 1, (Option.none : Option Jvm.ClassFile.FieldType))
  | 17 => (({ cls := "FrescoWall$Photo", name := "isThere", desc := "()Z" } : Jvm.MethodName), prog_7_method_2_code, 1, (Option.some Jvm.ClassFile.FieldType.boolean))
  | 18 => (({ cls := "FrescoWall$Photo", name := "countColours", desc := "()I" } : Jvm.MethodName), prog_7_method_3_code, 1, (Option.some Jvm.ClassFile.FieldType.int))
  | 19 => (({ cls := "FrescoWall$Photo", name := "faultOf", desc := "(LFrescoWall$Tape;)I" } : Jvm.MethodName), prog_7_method_4_code, 7, (Option.some Jvm.ClassFile.FieldType.int))
  | 20 => (({ cls := "FrescoWall$Photo", name := "isWhole", desc := "(III)Z" } : Jvm.MethodName), prog_7_method_5_code, 3, (Option.some Jvm.ClassFile.FieldType.boolean))
  | 21 => (({ cls := "FrescoWall$Photo", name := "take", desc := "(LFrescoWall$Tape;III)V" } : Jvm.MethodName), prog_7_method_6_code, 8, (Option.none : Option Jvm.ClassFile.FieldType))
  | 22 => (({ cls := "FrescoWall$Photo", name := "spreadColour", desc := "(IIII)V" } : Jvm.MethodName), prog_7_method_7_code, 7, (Option.none : Option Jvm.ClassFile.FieldType))
  | 23 => (({ cls := "FrescoWall$Photo", name := "countAgreeing", desc := "(LFrescoWall$Bit;III)I" } : Jvm.MethodName), prog_7_method_8_code, 10, (Option.some Jvm.ClassFile.FieldType.int))
  | 24 => (({ cls := "FrescoWall$Photo", name := "search", desc := "(LFrescoWall$Bit;)Z" } : Jvm.MethodName), prog_7_method_9_code, 3, (Option.some Jvm.ClassFile.FieldType.boolean))
  | 25 => (({ cls := "FrescoWall$Photo", name := "searchTurned", desc := "(LFrescoWall$Bit;I)V" } : Jvm.MethodName), prog_7_method_10_code, 10, (Option.none : Option Jvm.ClassFile.FieldType))
  | 26 => (({ cls := "FrescoWall$Photo", name := "compare", desc := "(IJ)V" } : Jvm.MethodName), prog_7_method_11_code, 4, (Option.none : Option Jvm.ClassFile.FieldType))
  | 27 => (({ cls := "FrescoWall$Question", name := "<init>", desc := "(LFrescoWall$Fits;LFrescoWall$Joins;LFrescoWall$Boxes;)V" } : Jvm.MethodName), prog_9_method_1_code, 4, (Option.none : Option Jvm.ClassFile.FieldType))
  | 28 => (({ cls := "FrescoWall$Question", name := "readTape", desc := "(LFrescoWall$Tape;II)I" } : Jvm.MethodName), prog_9_method_2_code, 9, (Option.some Jvm.ClassFile.FieldType.int))
  | 29 => (({ cls := "FrescoWall$Question", name := "open", desc := "()V" } : Jvm.MethodName), prog_9_method_3_code, 1, (Option.none : Option Jvm.ClassFile.FieldType))
  | 30 => (({ cls := "FrescoWall$Question", name := "close", desc := "(I)V" } : Jvm.MethodName), prog_9_method_4_code, 3, (Option.none : Option Jvm.ClassFile.FieldType))
  | 31 => (({ cls := "FrescoWall$Question", name := "readFactor", desc := "(LFrescoWall$Tape;II)I" } : Jvm.MethodName), prog_9_method_5_code, 4, (Option.some Jvm.ClassFile.FieldType.int))
  | 32 => (({ cls := "FrescoWall$Question", name := "readBehind", desc := "(II)I" } : Jvm.MethodName), prog_9_method_6_code, 3, (Option.some Jvm.ClassFile.FieldType.int))
  | 33 => (({ cls := "FrescoWall$Question", name := "readComparison", desc := "(LFrescoWall$Tape;II)I" } : Jvm.MethodName), prog_9_method_7_code, 7, (Option.some Jvm.ClassFile.FieldType.int))
  | 34 => (({ cls := "FrescoWall$Question", name := "isLetter", desc := "(I)Z" } : Jvm.MethodName), prog_9_method_8_code, 1, (Option.some Jvm.ClassFile.FieldType.boolean))
  | 35 => (({ cls := "FrescoWall$Question", name := "compareAll", desc := "(III)I" } : Jvm.MethodName), prog_9_method_9_code, 8, (Option.some Jvm.ClassFile.FieldType.int))
  | 36 => (({ cls := "FrescoWall$Question", name := "valueOf", desc := "(II)I" } : Jvm.MethodName), prog_9_method_10_code, 5, (Option.some Jvm.ClassFile.FieldType.int))
  | 37 => (({ cls := "FrescoWall$Sketch", name := "<init>", desc := "(LFrescoWall$Tape;)V" } : Jvm.MethodName), prog_10_method_1_code, 2, (Option.none : Option Jvm.ClassFile.FieldType))
  | 38 => (({ cls := "FrescoWall$Sketch", name := "readTape", desc := "()I" } : Jvm.MethodName), prog_10_method_2_code, 1, (Option.some Jvm.ClassFile.FieldType.int))
  | _ => (({ cls := "FrescoWall$Sketch", name := "skip", desc := "(I)Z" } : Jvm.MethodName), prog_10_method_3_code, 2, (Option.some Jvm.ClassFile.FieldType.boolean))
def km_t2 (k : Nat) : km_T := match k with
  | 0 => (({ cls := "FrescoWall$Sketch", name := "readPoint", desc := "(I[I[I[II)Z" } : Jvm.MethodName), prog_10_method_4_code, 6, (Option.some Jvm.ClassFile.FieldType.boolean))
  | 1 => (({ cls := "FrescoWall$Sketch", name := "readCoordinate", desc := "()Z" } : Jvm.MethodName), prog_10_method_5_code, 3, (Option.some Jvm.ClassFile.FieldType.boolean))
  | 2 => (({ cls := "FrescoWall$Sketch", name := "isRing", desc := "()Z" } : Jvm.MethodName), prog_10_method_6_code, 3, (Option.some Jvm.ClassFile.FieldType.boolean))
  | 3 => (({ cls := "FrescoWall$Sketch", name := "next", desc := "(I)I" } : Jvm.MethodName), prog_10_method_7_code, 2, (Option.some Jvm.ClassFile.FieldType.int))
  | 4 => (({ cls := "FrescoWall$Sketch", name := "twiceArea", desc := "()I" } : Jvm.MethodName), prog_10_method_8_code, 4, (Option.some Jvm.ClassFile.FieldType.int))
  | 5 => (({ cls := "FrescoWall$Sketch", name := "least", desc := "([I)I" } : Jvm.MethodName), prog_10_method_9_code, 4, (Option.some Jvm.ClassFile.FieldType.int))
  | 6 => (({ cls := "FrescoWall$Sketch", name := "most", desc := "([I)I" } : Jvm.MethodName), prog_10_method_10_code, 4, (Option.some Jvm.ClassFile.FieldType.int))
  | 7 => (({ cls := "FrescoWall$Sketch", name := "meetWrongly", desc := "(II)Z" } : Jvm.MethodName), prog_10_method_11_code, 3, (Option.some Jvm.ClassFile.FieldType.boolean))
  | 8 => (({ cls := "FrescoWall$Sketch", name := "foldsBack", desc := "(II)Z" } : Jvm.MethodName), prog_10_method_12_code, 7, (Option.some Jvm.ClassFile.FieldType.boolean))
  | 9 => (({ cls := "FrescoWall$Sketch", name := "cross", desc := "(II)Z" } : Jvm.MethodName), prog_10_method_13_code, 7, (Option.some Jvm.ClassFile.FieldType.boolean))
  | 10 => (({ cls := "FrescoWall$Sketch", name := "side", desc := "(II)I" } : Jvm.MethodName), prog_10_method_14_code, 5, (Option.some Jvm.ClassFile.FieldType.int))
  | 11 => (({ cls := "FrescoWall$Sketch", name := "spans", desc := "(II)Z" } : Jvm.MethodName), prog_10_method_15_code, 4, (Option.some Jvm.ClassFile.FieldType.boolean))
  | 12 => (({ cls := "FrescoWall$Sketch", name := "holdsCell", desc := "(II)Z" } : Jvm.MethodName), prog_10_method_16_code, 10, (Option.some Jvm.ClassFile.FieldType.boolean))
  | 13 => (({ cls := "FrescoWall$Sketch", name := "hasGoodSpots", desc := "()Z" } : Jvm.MethodName), prog_10_method_17_code, 3, (Option.some Jvm.ClassFile.FieldType.boolean))
  | 14 => (({ cls := "FrescoWall$Tape", name := "<init>", desc := "()V" } : Jvm.MethodName), prog_11_method_1_code, 1, (Option.none : Option Jvm.ClassFile.FieldType))
  | 15 => (({ cls := "FrescoWall$Tape", name := "append", desc := "(I)V" } : Jvm.MethodName), prog_11_method_2_code, 2, (Option.none : Option Jvm.ClassFile.FieldType))
  | 16 => (({ cls := "FrescoWall$Tape", name := "peek", desc := "(I)I" } : Jvm.MethodName), prog_11_method_3_code, 2, (Option.some Jvm.ClassFile.FieldType.int))
  | 17 => (({ cls := "FrescoWall$Tape", name := "digit", desc := "(I)I" } : Jvm.MethodName), prog_11_method_4_code, 3, (Option.some Jvm.ClassFile.FieldType.int))
  | 18 => (({ cls := "FrescoWall$Tape", name := "contains", desc := "(I)Z" } : Jvm.MethodName), prog_11_method_5_code, 3, (Option.some Jvm.ClassFile.FieldType.boolean))
  | 19 => (({ cls := "FrescoWall$Wall", name := "<init>", desc := "(LFrescoWall$Fits;LFrescoWall$Joins;)V" } : Jvm.MethodName), prog_12_method_1_code, 4, (Option.none : Option Jvm.ClassFile.FieldType))
  | 20 => (({ cls := "FrescoWall$Wall", name := "hasWord", desc := "(I)Z" } : Jvm.MethodName), prog_12_method_2_code, 2, (Option.some Jvm.ClassFile.FieldType.boolean))
  | 21 => (({ cls := "FrescoWall$Wall", name := "groupHasWord", desc := "(I)Z" } : Jvm.MethodName), prog_12_method_3_code, 2, (Option.some Jvm.ClassFile.FieldType.boolean))
  | 22 => (({ cls := "FrescoWall$Wall", name := "stands", desc := "(I)Z" } : Jvm.MethodName), prog_12_method_4_code, 2, (Option.some Jvm.ClassFile.FieldType.boolean))
  | 23 => (({ cls := "FrescoWall$Wall", name := "standing", desc := "()I" } : Jvm.MethodName), prog_12_method_5_code, 3, (Option.some Jvm.ClassFile.FieldType.int))
  | 24 => (({ cls := "FrescoWall$Wall", name := "bitAt", desc := "(II)I" } : Jvm.MethodName), prog_12_method_6_code, 6, (Option.some Jvm.ClassFile.FieldType.int))
  | 25 => (({ cls := "FrescoWall$Wall", name := "attach", desc := "(IIJ)I" } : Jvm.MethodName), prog_12_method_7_code, 10, (Option.some Jvm.ClassFile.FieldType.int))
  | 26 => (({ cls := "FrescoWall$Wall", name := "attachTo", desc := "(IJI)I" } : Jvm.MethodName), prog_12_method_8_code, 6, (Option.some Jvm.ClassFile.FieldType.int))
  | 27 => (({ cls := "FrescoWall$Wall", name := "firstHit", desc := "(IJI)I" } : Jvm.MethodName), prog_12_method_9_code, 9, (Option.some Jvm.ClassFile.FieldType.int))
  | 28 => (({ cls := "FrescoWall$Wall", name := "carry", desc := "(IJ)V" } : Jvm.MethodName), prog_12_method_10_code, 5, (Option.none : Option Jvm.ClassFile.FieldType))
  | 29 => (({ cls := "FrescoWall$Wall", name := "anchorOf", desc := "(I)I" } : Jvm.MethodName), prog_12_method_11_code, 3, (Option.some Jvm.ClassFile.FieldType.int))
  | 30 => (({ cls := "FrescoWall$Wall", name := "tell", desc := "(III)I" } : Jvm.MethodName), prog_12_method_12_code, 4, (Option.some Jvm.ClassFile.FieldType.int))
  | 31 => (({ cls := "FrescoWall$Wall", name := "tellBetween", desc := "(IIIII)I" } : Jvm.MethodName), prog_12_method_13_code, 6, (Option.some Jvm.ClassFile.FieldType.int))
  | 32 => (({ cls := "FrescoWall$Wall", name := "tellAround", desc := "(IIIII)I" } : Jvm.MethodName), prog_12_method_14_code, 6, (Option.some Jvm.ClassFile.FieldType.int))
  | 33 => (({ cls := "FrescoWall$Wall", name := "tellWay", desc := "(II)V" } : Jvm.MethodName), prog_12_method_15_code, 5, (Option.none : Option Jvm.ClassFile.FieldType))
  | 34 => (({ cls := "FrescoWall$Wall", name := "say", desc := "(IJ)I" } : Jvm.MethodName), prog_12_method_16_code, 7, (Option.some Jvm.ClassFile.FieldType.int))
  | 35 => (({ cls := "FrescoWall$Wall", name := "takeBack", desc := "(I)V" } : Jvm.MethodName), prog_12_method_17_code, 2, (Option.none : Option Jvm.ClassFile.FieldType))
  | 36 => (({ cls := "FrescoWall$Wall", name := "lay", desc := "(IJ)I" } : Jvm.MethodName), prog_12_method_18_code, 5, (Option.some Jvm.ClassFile.FieldType.int))
  | 37 => (({ cls := "FrescoWall$Wall", name := "putBy", desc := "(I)V" } : Jvm.MethodName), prog_12_method_19_code, 2, (Option.none : Option Jvm.ClassFile.FieldType))
  | 38 => (({ cls := "FrescoWall$Wall", name := "bring", desc := "(IJ)I" } : Jvm.MethodName), prog_12_method_20_code, 5, (Option.some Jvm.ClassFile.FieldType.int))
  | _ => (({ cls := "FrescoWall$Wall", name := "bestJoins", desc := "()J" } : Jvm.MethodName), prog_12_method_21_code, 4, (Option.some Jvm.ClassFile.FieldType.long))
def km_t3 (k : Nat) : km_T := match k with
  | 0 => (({ cls := "FrescoWall$Wall", name := "proved", desc := "()I" } : Jvm.MethodName), prog_12_method_22_code, 1, (Option.some Jvm.ClassFile.FieldType.int))
  | 1 => (({ cls := "FrescoWall$Wall", name := "prove", desc := "(I)I" } : Jvm.MethodName), prog_12_method_23_code, 7, (Option.some Jvm.ClassFile.FieldType.int))
  | 2 => (({ cls := "FrescoWall", name := "<init>", desc := "()V" } : Jvm.MethodName), prog_1_method_1_code, 1, (Option.none : Option Jvm.ClassFile.FieldType))
  | 3 => (({ cls := "FrescoWall", name := "feed", desc := "(JI)I" } : Jvm.MethodName), prog_1_method_2_code, 5, (Option.some Jvm.ClassFile.FieldType.int))
  | 4 => (({ cls := "FrescoWall", name := "bit", desc := "(III)I" } : Jvm.MethodName), prog_1_method_3_code, 6, (Option.some Jvm.ClassFile.FieldType.int))
  | 5 => (({ cls := "FrescoWall", name := "about", desc := "(II)I" } : Jvm.MethodName), prog_1_method_4_code, 4, (Option.some Jvm.ClassFile.FieldType.int))
  | 6 => (({ cls := "FrescoWall", name := "corner", desc := "(III)I" } : Jvm.MethodName), prog_1_method_5_code, 5, (Option.some Jvm.ClassFile.FieldType.int))
  | 7 => (({ cls := "FrescoWall", name := "overlap", desc := "(IIIII)I" } : Jvm.MethodName), prog_1_method_6_code, 6, (Option.some Jvm.ClassFile.FieldType.int))
  | 8 => (({ cls := "FrescoWall", name := "tolerance", desc := "(I)I" } : Jvm.MethodName), prog_1_method_7_code, 3, (Option.some Jvm.ClassFile.FieldType.int))
  | 9 => (({ cls := "FrescoWall", name := "likeness", desc := "(III)I" } : Jvm.MethodName), prog_1_method_8_code, 5, (Option.some Jvm.ClassFile.FieldType.int))
  | 10 => (({ cls := "FrescoWall", name := "score", desc := "(IIII)I" } : Jvm.MethodName), prog_1_method_9_code, 8, (Option.some Jvm.ClassFile.FieldType.int))
  | 11 => (({ cls := "FrescoWall", name := "turned", desc := "(IIIII)I" } : Jvm.MethodName), prog_1_method_10_code, 8, (Option.some Jvm.ClassFile.FieldType.int))
  | 12 => (({ cls := "FrescoWall", name := "fits", desc := "(II)I" } : Jvm.MethodName), prog_1_method_11_code, 3, (Option.some Jvm.ClassFile.FieldType.int))
  | 13 => (({ cls := "FrescoWall", name := "fit", desc := "(III)I" } : Jvm.MethodName), prog_1_method_12_code, 4, (Option.some Jvm.ClassFile.FieldType.int))
  | 14 => (({ cls := "FrescoWall", name := "rival", desc := "(IIII)I" } : Jvm.MethodName), prog_1_method_13_code, 8, (Option.some Jvm.ClassFile.FieldType.int))
  | 15 => (({ cls := "FrescoWall", name := "join", desc := "(IIII)I" } : Jvm.MethodName), prog_1_method_14_code, 9, (Option.some Jvm.ClassFile.FieldType.int))
  | 16 => (({ cls := "FrescoWall", name := "undo", desc := "(I)I" } : Jvm.MethodName), prog_1_method_15_code, 2, (Option.some Jvm.ClassFile.FieldType.int))
  | 17 => (({ cls := "FrescoWall", name := "joined", desc := "(II)I" } : Jvm.MethodName), prog_1_method_16_code, 3, (Option.some Jvm.ClassFile.FieldType.int))
  | 18 => (({ cls := "FrescoWall", name := "group", desc := "(II)I" } : Jvm.MethodName), prog_1_method_17_code, 4, (Option.some Jvm.ClassFile.FieldType.int))
  | 19 => (({ cls := "FrescoWall", name := "clash", desc := "(I)I" } : Jvm.MethodName), prog_1_method_18_code, 2, (Option.some Jvm.ClassFile.FieldType.int))
  | 20 => (({ cls := "FrescoWall", name := "word", desc := "(IIII)I" } : Jvm.MethodName), prog_1_method_19_code, 6, (Option.some Jvm.ClassFile.FieldType.int))
  | 21 => (({ cls := "FrescoWall", name := "unsay", desc := "(I)I" } : Jvm.MethodName), prog_1_method_20_code, 2, (Option.some Jvm.ClassFile.FieldType.int))
  | 22 => (({ cls := "FrescoWall", name := "put", desc := "(IIII)I" } : Jvm.MethodName), prog_1_method_21_code, 6, (Option.some Jvm.ClassFile.FieldType.int))
  | 23 => (({ cls := "FrescoWall", name := "lift", desc := "(I)I" } : Jvm.MethodName), prog_1_method_22_code, 2, (Option.some Jvm.ClassFile.FieldType.int))
  | 24 => (({ cls := "FrescoWall", name := "placed", desc := "(II)I" } : Jvm.MethodName), prog_1_method_23_code, 3, (Option.some Jvm.ClassFile.FieldType.int))
  | 25 => (({ cls := "FrescoWall", name := "at", desc := "(II)I" } : Jvm.MethodName), prog_1_method_24_code, 3, (Option.some Jvm.ClassFile.FieldType.int))
  | 26 => (({ cls := "FrescoWall", name := "proof", desc := "(I)I" } : Jvm.MethodName), prog_1_method_25_code, 3, (Option.some Jvm.ClassFile.FieldType.int))
  | 27 => (({ cls := "FrescoWall", name := "reason", desc := "(II)I" } : Jvm.MethodName), prog_1_method_26_code, 3, (Option.some Jvm.ClassFile.FieldType.int))
  | 28 => (({ cls := "FrescoWall", name := "photograph", desc := "(III)I" } : Jvm.MethodName), prog_1_method_27_code, 5, (Option.some Jvm.ClassFile.FieldType.int))
  | 29 => (({ cls := "FrescoWall", name := "agree", desc := "(IIII)I" } : Jvm.MethodName), prog_1_method_28_code, 5, (Option.some Jvm.ClassFile.FieldType.int))
  | 30 => (({ cls := "FrescoWall", name := "best", desc := "(II)I" } : Jvm.MethodName), prog_1_method_29_code, 3, (Option.some Jvm.ClassFile.FieldType.int))
  | 31 => (({ cls := "FrescoWall", name := "arrange", desc := "(I)I" } : Jvm.MethodName), prog_1_method_30_code, 3, (Option.some Jvm.ClassFile.FieldType.int))
  | 32 => (({ cls := "FrescoWall", name := "arranged", desc := "(II)I" } : Jvm.MethodName), prog_1_method_31_code, 3, (Option.some Jvm.ClassFile.FieldType.int))
  | 33 => (({ cls := "FrescoWall", name := "ask", desc := "()I" } : Jvm.MethodName), prog_1_method_32_code, 3, (Option.some Jvm.ClassFile.FieldType.int))
  | 34 => (({ cls := "FrescoWall", name := "asked", desc := "(I)I" } : Jvm.MethodName), prog_1_method_33_code, 4, (Option.some Jvm.ClassFile.FieldType.int))
  | 35 => (({ cls := "FrescoWall", name := "enter", desc := "(III)I" } : Jvm.MethodName), prog_1_method_34_code, 4, (Option.some Jvm.ClassFile.FieldType.int))
  | 36 => (({ cls := "FrescoWall", name := "box", desc := "(III)I" } : Jvm.MethodName), prog_1_method_35_code, 5, (Option.some Jvm.ClassFile.FieldType.int))
  | 37 => (({ cls := "FrescoWall", name := "skill", desc := "(III)I" } : Jvm.MethodName), prog_1_method_36_code, 5, (Option.some Jvm.ClassFile.FieldType.int))
  | 38 => (({ cls := "FrescoWall", name := "share", desc := "(I)I" } : Jvm.MethodName), prog_1_method_37_code, 3, (Option.some Jvm.ClassFile.FieldType.int))
  | _ => (({ cls := "FrescoWall", name := "count", desc := "(I)I" } : Jvm.MethodName), prog_1_method_38_code, 2, (Option.some Jvm.ClassFile.FieldType.int))
def km_t4 (k : Nat) : km_T := match k with
  | 0 => (({ cls := "FrescoWall", name := "isBit", desc := "(I)Z" } : Jvm.MethodName), prog_1_method_39_code, 2, (Option.some Jvm.ClassFile.FieldType.boolean))
  | 1 => (({ cls := "FrescoWall", name := "isEdge", desc := "(II)Z" } : Jvm.MethodName), prog_1_method_40_code, 3, (Option.some Jvm.ClassFile.FieldType.boolean))
  | 2 => (({ cls := "FrescoWall", name := "isBest", desc := "(I)Z" } : Jvm.MethodName), prog_1_method_41_code, 2, (Option.some Jvm.ClassFile.FieldType.boolean))
  | 3 => (({ cls := "FrescoWall", name := "refusePair", desc := "(IIII)I" } : Jvm.MethodName), prog_1_method_42_code, 5, (Option.some Jvm.ClassFile.FieldType.int))
  | 4 => (({ cls := "FrescoWall", name := "isDigit", desc := "(I)Z" } : Jvm.MethodName), prog_1_method_43_code, 1, (Option.some Jvm.ClassFile.FieldType.boolean))
  | 5 => (({ cls := "FrescoWall", name := "isNear", desc := "(I)Z" } : Jvm.MethodName), prog_1_method_44_code, 1, (Option.some Jvm.ClassFile.FieldType.boolean))
  | 6 => (({ cls := "FrescoWall", name := "isPlacing", desc := "(III)Z" } : Jvm.MethodName), prog_1_method_45_code, 3, (Option.some Jvm.ClassFile.FieldType.boolean))
  | 7 => (({ cls := "FrescoWall", name := "isDay", desc := "(I)Z" } : Jvm.MethodName), prog_1_method_46_code, 1, (Option.some Jvm.ClassFile.FieldType.boolean))
  | 8 => (({ cls := "FrescoWall", name := "isHand", desc := "(I)Z" } : Jvm.MethodName), prog_1_method_47_code, 1, (Option.some Jvm.ClassFile.FieldType.boolean))
  | 9 => (({ cls := "FrescoWall", name := "partOf", desc := "(JI)I" } : Jvm.MethodName), prog_1_method_48_code, 3, (Option.some Jvm.ClassFile.FieldType.int))
  | 10 => (({ cls := "FrescoWallModel", name := "<init>", desc := "()V" } : Jvm.MethodName), prog_14_method_1_code, 2, (Option.none : Option Jvm.ClassFile.FieldType))
  | 11 => (({ cls := "FrescoWallModel", name := "in", desc := "(III)Z" } : Jvm.MethodName), prog_14_method_3_code, 3, (Option.some Jvm.ClassFile.FieldType.boolean))
  | 12 => (({ cls := "FrescoWallModel", name := "isBit", desc := "(I)Z" } : Jvm.MethodName), prog_14_method_4_code, 2, (Option.some Jvm.ClassFile.FieldType.boolean))
  | 13 => (({ cls := "FrescoWallModel", name := "isEdge", desc := "(II)Z" } : Jvm.MethodName), prog_14_method_5_code, 3, (Option.some Jvm.ClassFile.FieldType.boolean))
  | 14 => (({ cls := "FrescoWallModel", name := "feed", desc := "(JI)I" } : Jvm.MethodName), prog_14_method_6_code, 5, (Option.some Jvm.ClassFile.FieldType.int))
  | 15 => (({ cls := "FrescoWallModel", name := "byteAt", desc := "()I" } : Jvm.MethodName), prog_14_method_7_code, 1, (Option.some Jvm.ClassFile.FieldType.int))
  | 16 => (({ cls := "FrescoWallModel", name := "isDigit", desc := "()Z" } : Jvm.MethodName), prog_14_method_8_code, 1, (Option.some Jvm.ClassFile.FieldType.boolean))
  | 17 => (({ cls := "FrescoWallModel", name := "must", desc := "(I)V" } : Jvm.MethodName), prog_14_method_9_code, 2, (Option.none : Option Jvm.ClassFile.FieldType))
  | 18 => (({ cls := "FrescoWallModel", name := "digit", desc := "()I" } : Jvm.MethodName), prog_14_method_10_code, 2, (Option.some Jvm.ClassFile.FieldType.int))
  | 19 => (({ cls := "FrescoWallModel", name := "place", desc := "()I" } : Jvm.MethodName), prog_14_method_11_code, 4, (Option.some Jvm.ClassFile.FieldType.int))
  | 20 => (({ cls := "FrescoWallModel", name := "readsCorner", desc := "()V" } : Jvm.MethodName), prog_14_method_12_code, 2, (Option.none : Option Jvm.ClassFile.FieldType))
  | 21 => (({ cls := "FrescoWallModel", name := "readsSpot", desc := "()V" } : Jvm.MethodName), prog_14_method_13_code, 2, (Option.none : Option Jvm.ClassFile.FieldType))
  | 22 => (({ cls := "FrescoWallModel", name := "readsBit", desc := "()V" } : Jvm.MethodName), prog_14_method_14_code, 1, (Option.none : Option Jvm.ClassFile.FieldType))
  | 23 => (({ cls := "FrescoWallModel", name := "cross", desc := "(IIII)I" } : Jvm.MethodName), prog_14_method_15_code, 4, (Option.some Jvm.ClassFile.FieldType.int))
  | 24 => (({ cls := "FrescoWallModel", name := "next", desc := "(II)I" } : Jvm.MethodName), prog_14_method_16_code, 3, (Option.some Jvm.ClassFile.FieldType.int))
  | 25 => (({ cls := "FrescoWallModel", name := "wayX", desc := "(II)I" } : Jvm.MethodName), prog_14_method_17_code, 3, (Option.some Jvm.ClassFile.FieldType.int))
  | 26 => (({ cls := "FrescoWallModel", name := "wayY", desc := "(II)I" } : Jvm.MethodName), prog_14_method_18_code, 3, (Option.some Jvm.ClassFile.FieldType.int))
  | 27 => (({ cls := "FrescoWallModel", name := "sign", desc := "(I)I" } : Jvm.MethodName), prog_14_method_19_code, 1, (Option.some Jvm.ClassFile.FieldType.int))
  | 28 => (({ cls := "FrescoWallModel", name := "side", desc := "(IIII)I" } : Jvm.MethodName), prog_14_method_20_code, 5, (Option.some Jvm.ClassFile.FieldType.int))
  | 29 => (({ cls := "FrescoWallModel", name := "isOn", desc := "(IIII)Z" } : Jvm.MethodName), prog_14_method_21_code, 8, (Option.some Jvm.ClassFile.FieldType.boolean))
  | 30 => (({ cls := "FrescoWallModel", name := "meet", desc := "(III)Z" } : Jvm.MethodName), prog_14_method_22_code, 8, (Option.some Jvm.ClassFile.FieldType.boolean))
  | 31 => (({ cls := "FrescoWallModel", name := "folds", desc := "(III)Z" } : Jvm.MethodName), prog_14_method_23_code, 5, (Option.some Jvm.ClassFile.FieldType.boolean))
  | 32 => (({ cls := "FrescoWallModel", name := "areaOf", desc := "(I)I" } : Jvm.MethodName), prog_14_method_24_code, 6, (Option.some Jvm.ClassFile.FieldType.int))
  | 33 => (({ cls := "FrescoWallModel", name := "isRing", desc := "(I)Z" } : Jvm.MethodName), prog_14_method_25_code, 5, (Option.some Jvm.ClassFile.FieldType.boolean))
  | 34 => (({ cls := "FrescoWallModel", name := "isWithin", desc := "(III)Z" } : Jvm.MethodName), prog_14_method_26_code, 15, (Option.some Jvm.ClassFile.FieldType.boolean))
  | 35 => (({ cls := "FrescoWallModel", name := "isGrid", desc := "(II)Z" } : Jvm.MethodName), prog_14_method_27_code, 2, (Option.some Jvm.ClassFile.FieldType.boolean))
  | 36 => (({ cls := "FrescoWallModel", name := "gridOf", desc := "(III)I" } : Jvm.MethodName), prog_14_method_28_code, 3, (Option.some Jvm.ClassFile.FieldType.int))
  | 37 => (({ cls := "FrescoWallModel", name := "hasCell", desc := "(III)Z" } : Jvm.MethodName), prog_14_method_29_code, 4, (Option.some Jvm.ClassFile.FieldType.boolean))
  | 38 => (({ cls := "FrescoWallModel", name := "lays", desc := "(I)V" } : Jvm.MethodName), prog_14_method_30_code, 5, (Option.none : Option Jvm.ClassFile.FieldType))
  | _ => (({ cls := "FrescoWallModel", name := "areSpots", desc := "(I)Z" } : Jvm.MethodName), prog_14_method_31_code, 5, (Option.some Jvm.ClassFile.FieldType.boolean))
def km_t5 (k : Nat) : km_T := match k with
  | 0 => (({ cls := "FrescoWallModel", name := "bit", desc := "(III)I" } : Jvm.MethodName), prog_14_method_32_code, 5, (Option.some Jvm.ClassFile.FieldType.int))
  | 1 => (({ cls := "FrescoWallModel", name := "about", desc := "(II)I" } : Jvm.MethodName), prog_14_method_33_code, 3, (Option.some Jvm.ClassFile.FieldType.int))
  | 2 => (({ cls := "FrescoWallModel", name := "corner", desc := "(III)I" } : Jvm.MethodName), prog_14_method_34_code, 5, (Option.some Jvm.ClassFile.FieldType.int))
  | 3 => (({ cls := "FrescoWallModel", name := "turnedX", desc := "(III)I" } : Jvm.MethodName), prog_14_method_35_code, 3, (Option.some Jvm.ClassFile.FieldType.int))
  | 4 => (({ cls := "FrescoWallModel", name := "turnedY", desc := "(III)I" } : Jvm.MethodName), prog_14_method_36_code, 3, (Option.some Jvm.ClassFile.FieldType.int))
  | 5 => (({ cls := "FrescoWallModel", name := "cellTurnedX", desc := "(III)I" } : Jvm.MethodName), prog_14_method_37_code, 3, (Option.some Jvm.ClassFile.FieldType.int))
  | 6 => (({ cls := "FrescoWallModel", name := "cellTurnedY", desc := "(III)I" } : Jvm.MethodName), prog_14_method_38_code, 3, (Option.some Jvm.ClassFile.FieldType.int))
  | 7 => (({ cls := "FrescoWallModel", name := "overlaps", desc := "(IIIII)I" } : Jvm.MethodName), prog_14_method_39_code, 8, (Option.some Jvm.ClassFile.FieldType.int))
  | 8 => (({ cls := "FrescoWallModel", name := "overlap", desc := "(IIIII)I" } : Jvm.MethodName), prog_14_method_40_code, 6, (Option.some Jvm.ClassFile.FieldType.int))
  | 9 => (({ cls := "FrescoWallModel", name := "tolerance", desc := "(I)I" } : Jvm.MethodName), prog_14_method_41_code, 3, (Option.some Jvm.ClassFile.FieldType.int))
  | 10 => (({ cls := "FrescoWallModel", name := "compares", desc := "(II)V" } : Jvm.MethodName), prog_14_method_42_code, 8, (Option.none : Option Jvm.ClassFile.FieldType))
  | 11 => (({ cls := "FrescoWallModel", name := "entry", desc := "(IIII)I" } : Jvm.MethodName), prog_14_method_43_code, 5, (Option.some Jvm.ClassFile.FieldType.int))
  | 12 => (({ cls := "FrescoWallModel", name := "fitX", desc := "(IIII)I" } : Jvm.MethodName), prog_14_method_44_code, 6, (Option.some Jvm.ClassFile.FieldType.int))
  | 13 => (({ cls := "FrescoWallModel", name := "fitY", desc := "(IIII)I" } : Jvm.MethodName), prog_14_method_45_code, 6, (Option.some Jvm.ClassFile.FieldType.int))
  | 14 => (({ cls := "FrescoWallModel", name := "isFit", desc := "(IIII)Z" } : Jvm.MethodName), prog_14_method_46_code, 6, (Option.some Jvm.ClassFile.FieldType.boolean))
  | 15 => (({ cls := "FrescoWallModel", name := "scoreOf", desc := "(IIII)I" } : Jvm.MethodName), prog_14_method_47_code, 7, (Option.some Jvm.ClassFile.FieldType.int))
  | 16 => (({ cls := "FrescoWallModel", name := "likeness", desc := "(III)I" } : Jvm.MethodName), prog_14_method_48_code, 5, (Option.some Jvm.ClassFile.FieldType.int))
  | 17 => (({ cls := "FrescoWallModel", name := "score", desc := "(IIII)I" } : Jvm.MethodName), prog_14_method_49_code, 5, (Option.some Jvm.ClassFile.FieldType.int))
  | 18 => (({ cls := "FrescoWallModel", name := "turned", desc := "(IIIII)I" } : Jvm.MethodName), prog_14_method_50_code, 6, (Option.some Jvm.ClassFile.FieldType.int))
  | 19 => (({ cls := "FrescoWallModel", name := "lists", desc := "(II)V" } : Jvm.MethodName), prog_14_method_51_code, 7, (Option.none : Option Jvm.ClassFile.FieldType))
  | 20 => (({ cls := "FrescoWallModel", name := "fits", desc := "(II)I" } : Jvm.MethodName), prog_14_method_52_code, 3, (Option.some Jvm.ClassFile.FieldType.int))
  | 21 => (({ cls := "FrescoWallModel", name := "fit", desc := "(III)I" } : Jvm.MethodName), prog_14_method_53_code, 4, (Option.some Jvm.ClassFile.FieldType.int))
  | 22 => (({ cls := "FrescoWallModel", name := "other", desc := "(IIIII)I" } : Jvm.MethodName), prog_14_method_54_code, 7, (Option.some Jvm.ClassFile.FieldType.int))
  | 23 => (({ cls := "FrescoWallModel", name := "rivalOf", desc := "(IIII)I" } : Jvm.MethodName), prog_14_method_55_code, 8, (Option.some Jvm.ClassFile.FieldType.int))
  | 24 => (({ cls := "FrescoWallModel", name := "rival", desc := "(IIII)I" } : Jvm.MethodName), prog_14_method_56_code, 5, (Option.some Jvm.ClassFile.FieldType.int))
  | 25 => (({ cls := "FrescoWallModel", name := "holds", desc := "(III)V" } : Jvm.MethodName), prog_14_method_57_code, 4, (Option.none : Option Jvm.ClassFile.FieldType))
  | 26 => (({ cls := "FrescoWallModel", name := "then", desc := "(III)V" } : Jvm.MethodName), prog_14_method_58_code, 6, (Option.none : Option Jvm.ClassFile.FieldType))
  | 27 => (({ cls := "FrescoWallModel", name := "thenBack", desc := "(III)V" } : Jvm.MethodName), prog_14_method_59_code, 5, (Option.none : Option Jvm.ClassFile.FieldType))
  | 28 => (({ cls := "FrescoWallModel", name := "isHeld", desc := "(III)Z" } : Jvm.MethodName), prog_14_method_60_code, 4, (Option.some Jvm.ClassFile.FieldType.boolean))
  | 29 => (({ cls := "FrescoWallModel", name := "thenJoin", desc := "(I)V" } : Jvm.MethodName), prog_14_method_61_code, 2, (Option.none : Option Jvm.ClassFile.FieldType))
  | 30 => (({ cls := "FrescoWallModel", name := "thenJoinBack", desc := "(I)V" } : Jvm.MethodName), prog_14_method_62_code, 2, (Option.none : Option Jvm.ClassFile.FieldType))
  | 31 => (({ cls := "FrescoWallModel", name := "groups", desc := "()V" } : Jvm.MethodName), prog_14_method_63_code, 4, (Option.none : Option Jvm.ClassFile.FieldType))
  | 32 => (({ cls := "FrescoWallModel", name := "sets", desc := "(II)V" } : Jvm.MethodName), prog_14_method_64_code, 3, (Option.none : Option Jvm.ClassFile.FieldType))
  | 33 => (({ cls := "FrescoWallModel", name := "reaches", desc := "(II)Z" } : Jvm.MethodName), prog_14_method_65_code, 5, (Option.some Jvm.ClassFile.FieldType.boolean))
  | 34 => (({ cls := "FrescoWallModel", name := "within", desc := "(II)V" } : Jvm.MethodName), prog_14_method_66_code, 3, (Option.none : Option Jvm.ClassFile.FieldType))
  | 35 => (({ cls := "FrescoWallModel", name := "thenWithin", desc := "(II)V" } : Jvm.MethodName), prog_14_method_67_code, 3, (Option.none : Option Jvm.ClassFile.FieldType))
  | 36 => (({ cls := "FrescoWallModel", name := "leads", desc := "(IZ)Z" } : Jvm.MethodName), prog_14_method_68_code, 3, (Option.some Jvm.ClassFile.FieldType.boolean))
  | 37 => (({ cls := "FrescoWallModel", name := "reckons", desc := "(IZ)V" } : Jvm.MethodName), prog_14_method_69_code, 7, (Option.none : Option Jvm.ClassFile.FieldType))
  | 38 => (({ cls := "FrescoWallModel", name := "goes", desc := "(IIZ)V" } : Jvm.MethodName), prog_14_method_70_code, 6, (Option.none : Option Jvm.ClassFile.FieldType))
  | _ => (({ cls := "FrescoWallModel", name := "holder", desc := "(I)I" } : Jvm.MethodName), prog_14_method_71_code, 5, (Option.some Jvm.ClassFile.FieldType.int))
def km_t6 (k : Nat) : km_T := match k with
  | 0 => (({ cls := "FrescoWallModel", name := "hasWordIn", desc := "(II)Z" } : Jvm.MethodName), prog_14_method_72_code, 5, (Option.some Jvm.ClassFile.FieldType.boolean))
  | 1 => (({ cls := "FrescoWallModel", name := "onWall", desc := "(I)Z" } : Jvm.MethodName), prog_14_method_73_code, 3, (Option.some Jvm.ClassFile.FieldType.boolean))
  | 2 => (({ cls := "FrescoWallModel", name := "walls", desc := "()V" } : Jvm.MethodName), prog_14_method_74_code, 3, (Option.none : Option Jvm.ClassFile.FieldType))
  | 3 => (({ cls := "FrescoWallModel", name := "places", desc := "(IIII)V" } : Jvm.MethodName), prog_14_method_75_code, 6, (Option.none : Option Jvm.ClassFile.FieldType))
  | 4 => (({ cls := "FrescoWallModel", name := "overlapThere", desc := "(II)I" } : Jvm.MethodName), prog_14_method_76_code, 3, (Option.some Jvm.ClassFile.FieldType.int))
  | 5 => (({ cls := "FrescoWallModel", name := "clashesBy", desc := "(III)I" } : Jvm.MethodName), prog_14_method_77_code, 5, (Option.some Jvm.ClassFile.FieldType.int))
  | 6 => (({ cls := "FrescoWallModel", name := "hits", desc := "(II)I" } : Jvm.MethodName), prog_14_method_78_code, 5, (Option.some Jvm.ClassFile.FieldType.int))
  | 7 => (({ cls := "FrescoWallModel", name := "isTaken", desc := "(II)Z" } : Jvm.MethodName), prog_14_method_79_code, 5, (Option.some Jvm.ClassFile.FieldType.boolean))
  | 8 => (({ cls := "FrescoWallModel", name := "overlapping", desc := "(II)I" } : Jvm.MethodName), prog_14_method_80_code, 5, (Option.some Jvm.ClassFile.FieldType.int))
  | 9 => (({ cls := "FrescoWallModel", name := "against", desc := "(II)I" } : Jvm.MethodName), prog_14_method_81_code, 5, (Option.some Jvm.ClassFile.FieldType.int))
  | 10 => (({ cls := "FrescoWallModel", name := "clashOf", desc := "(II)I" } : Jvm.MethodName), prog_14_method_82_code, 4, (Option.some Jvm.ClassFile.FieldType.int))
  | 11 => (({ cls := "FrescoWallModel", name := "join", desc := "(IIII)I" } : Jvm.MethodName), prog_14_method_83_code, 6, (Option.some Jvm.ClassFile.FieldType.int))
  | 12 => (({ cls := "FrescoWallModel", name := "isJoin", desc := "(I)Z" } : Jvm.MethodName), prog_14_method_84_code, 2, (Option.some Jvm.ClassFile.FieldType.boolean))
  | 13 => (({ cls := "FrescoWallModel", name := "sizeOf", desc := "(I)I" } : Jvm.MethodName), prog_14_method_85_code, 4, (Option.some Jvm.ClassFile.FieldType.int))
  | 14 => (({ cls := "FrescoWallModel", name := "undo", desc := "(I)I" } : Jvm.MethodName), prog_14_method_86_code, 4, (Option.some Jvm.ClassFile.FieldType.int))
  | 15 => (({ cls := "FrescoWallModel", name := "isBestNow", desc := "(I)Z" } : Jvm.MethodName), prog_14_method_87_code, 2, (Option.some Jvm.ClassFile.FieldType.boolean))
  | 16 => (({ cls := "FrescoWallModel", name := "joined", desc := "(II)I" } : Jvm.MethodName), prog_14_method_88_code, 3, (Option.some Jvm.ClassFile.FieldType.int))
  | 17 => (({ cls := "FrescoWallModel", name := "joinsIn", desc := "(I)I" } : Jvm.MethodName), prog_14_method_89_code, 4, (Option.some Jvm.ClassFile.FieldType.int))
  | 18 => (({ cls := "FrescoWallModel", name := "group", desc := "(II)I" } : Jvm.MethodName), prog_14_method_90_code, 3, (Option.some Jvm.ClassFile.FieldType.int))
  | 19 => (({ cls := "FrescoWallModel", name := "clash", desc := "(I)I" } : Jvm.MethodName), prog_14_method_91_code, 2, (Option.some Jvm.ClassFile.FieldType.int))
  | 20 => (({ cls := "FrescoWallModel", name := "isPlace", desc := "(III)Z" } : Jvm.MethodName), prog_14_method_92_code, 3, (Option.some Jvm.ClassFile.FieldType.boolean))
  | 21 => (({ cls := "FrescoWallModel", name := "stays", desc := "(IIII)V" } : Jvm.MethodName), prog_14_method_93_code, 5, (Option.none : Option Jvm.ClassFile.FieldType))
  | 22 => (({ cls := "FrescoWallModel", name := "putsNone", desc := "(I)V" } : Jvm.MethodName), prog_14_method_94_code, 3, (Option.none : Option Jvm.ClassFile.FieldType))
  | 23 => (({ cls := "FrescoWallModel", name := "againstPlace", desc := "(IIII)I" } : Jvm.MethodName), prog_14_method_95_code, 6, (Option.some Jvm.ClassFile.FieldType.int))
  | 24 => (({ cls := "FrescoWallModel", name := "word", desc := "(IIII)I" } : Jvm.MethodName), prog_14_method_96_code, 6, (Option.some Jvm.ClassFile.FieldType.int))
  | 25 => (({ cls := "FrescoWallModel", name := "unsay", desc := "(I)I" } : Jvm.MethodName), prog_14_method_97_code, 2, (Option.some Jvm.ClassFile.FieldType.int))
  | 26 => (({ cls := "FrescoWallModel", name := "put", desc := "(IIII)I" } : Jvm.MethodName), prog_14_method_98_code, 6, (Option.some Jvm.ClassFile.FieldType.int))
  | 27 => (({ cls := "FrescoWallModel", name := "lift", desc := "(I)I" } : Jvm.MethodName), prog_14_method_99_code, 2, (Option.some Jvm.ClassFile.FieldType.int))
  | 28 => (({ cls := "FrescoWallModel", name := "placed", desc := "(II)I" } : Jvm.MethodName), prog_14_method_100_code, 3, (Option.some Jvm.ClassFile.FieldType.int))
  | 29 => (({ cls := "FrescoWallModel", name := "at", desc := "(II)I" } : Jvm.MethodName), prog_14_method_101_code, 7, (Option.some Jvm.ClassFile.FieldType.int))
  | 30 => (({ cls := "FrescoWallModel", name := "judges", desc := "()V" } : Jvm.MethodName), prog_14_method_102_code, 2, (Option.none : Option Jvm.ClassFile.FieldType))
  | 31 => (({ cls := "FrescoWallModel", name := "provedFrom", desc := "(I)I" } : Jvm.MethodName), prog_14_method_103_code, 4, (Option.some Jvm.ClassFile.FieldType.int))
  | 32 => (({ cls := "FrescoWallModel", name := "proof", desc := "(I)I" } : Jvm.MethodName), prog_14_method_104_code, 3, (Option.some Jvm.ClassFile.FieldType.int))
  | 33 => (({ cls := "FrescoWallModel", name := "reason", desc := "(II)I" } : Jvm.MethodName), prog_14_method_105_code, 4, (Option.some Jvm.ClassFile.FieldType.int))
  | 34 => (({ cls := "FrescoWallModel", name := "readsRows", desc := "()V" } : Jvm.MethodName), prog_14_method_106_code, 3, (Option.none : Option Jvm.ClassFile.FieldType))
  | 35 => (({ cls := "FrescoWallModel", name := "photograph", desc := "(III)I" } : Jvm.MethodName), prog_14_method_107_code, 9, (Option.some Jvm.ClassFile.FieldType.int))
  | 36 => (({ cls := "FrescoWallModel", name := "shows", desc := "(III)Z" } : Jvm.MethodName), prog_14_method_108_code, 7, (Option.some Jvm.ClassFile.FieldType.boolean))
  | 37 => (({ cls := "FrescoWallModel", name := "agrees", desc := "(IIII)I" } : Jvm.MethodName), prog_14_method_109_code, 7, (Option.some Jvm.ClassFile.FieldType.int))
  | 38 => (({ cls := "FrescoWallModel", name := "agree", desc := "(IIII)I" } : Jvm.MethodName), prog_14_method_110_code, 5, (Option.some Jvm.ClassFile.FieldType.int))
  | _ => (({ cls := "FrescoWallModel", name := "lies", desc := "(IIII)Z" } : Jvm.MethodName), prog_14_method_111_code, 7, (Option.some Jvm.ClassFile.FieldType.boolean))
def km_t7 (k : Nat) : km_T := match k with
  | 0 => (({ cls := "FrescoWallModel", name := "best", desc := "(II)I" } : Jvm.MethodName), prog_14_method_112_code, 15, (Option.some Jvm.ClassFile.FieldType.int))
  | 1 => (({ cls := "FrescoWallModel", name := "holdsOf", desc := "(II)V" } : Jvm.MethodName), prog_14_method_113_code, 3, (Option.none : Option Jvm.ClassFile.FieldType))
  | 2 => (({ cls := "FrescoWallModel", name := "worthOf", desc := "(II)I" } : Jvm.MethodName), prog_14_method_114_code, 12, (Option.some Jvm.ClassFile.FieldType.int))
  | 3 => (({ cls := "FrescoWallModel", name := "isAhead", desc := "()Z" } : Jvm.MethodName), prog_14_method_115_code, 2, (Option.some Jvm.ClassFile.FieldType.boolean))
  | 4 => (({ cls := "FrescoWallModel", name := "judgesSet", desc := "()V" } : Jvm.MethodName), prog_14_method_116_code, 4, (Option.none : Option Jvm.ClassFile.FieldType))
  | 5 => (({ cls := "FrescoWallModel", name := "tries", desc := "(IIII)V" } : Jvm.MethodName), prog_14_method_117_code, 9, (Option.none : Option Jvm.ClassFile.FieldType))
  | 6 => (({ cls := "FrescoWallModel", name := "arrange", desc := "(I)I" } : Jvm.MethodName), prog_14_method_118_code, 4, (Option.some Jvm.ClassFile.FieldType.int))
  | 7 => (({ cls := "FrescoWallModel", name := "arranged", desc := "(II)I" } : Jvm.MethodName), prog_14_method_119_code, 4, (Option.some Jvm.ClassFile.FieldType.int))
  | 8 => (({ cls := "FrescoWallModel", name := "letter", desc := "(I)I" } : Jvm.MethodName), prog_14_method_120_code, 5, (Option.some Jvm.ClassFile.FieldType.int))
  | 9 => (({ cls := "FrescoWallModel", name := "isLetter", desc := "(I)Z" } : Jvm.MethodName), prog_14_method_121_code, 1, (Option.some Jvm.ClassFile.FieldType.boolean))
  | 10 => (({ cls := "FrescoWallModel", name := "test", desc := "()Z" } : Jvm.MethodName), prog_14_method_122_code, 5, (Option.some Jvm.ClassFile.FieldType.boolean))
  | 11 => (({ cls := "FrescoWallModel", name := "factor", desc := "()Z" } : Jvm.MethodName), prog_14_method_123_code, 2, (Option.some Jvm.ClassFile.FieldType.boolean))
  | 12 => (({ cls := "FrescoWallModel", name := "term", desc := "()Z" } : Jvm.MethodName), prog_14_method_124_code, 3, (Option.some Jvm.ClassFile.FieldType.boolean))
  | 13 => (({ cls := "FrescoWallModel", name := "question", desc := "()Z" } : Jvm.MethodName), prog_14_method_125_code, 3, (Option.some Jvm.ClassFile.FieldType.boolean))
  | 14 => (({ cls := "FrescoWallModel", name := "asks", desc := "(I)Z" } : Jvm.MethodName), prog_14_method_126_code, 2, (Option.some Jvm.ClassFile.FieldType.boolean))
  | 15 => (({ cls := "FrescoWallModel", name := "ask", desc := "()I" } : Jvm.MethodName), prog_14_method_127_code, 3, (Option.some Jvm.ClassFile.FieldType.int))
  | 16 => (({ cls := "FrescoWallModel", name := "asked", desc := "(I)I" } : Jvm.MethodName), prog_14_method_128_code, 2, (Option.some Jvm.ClassFile.FieldType.int))
  | 17 => (({ cls := "FrescoWallModel", name := "enter", desc := "(III)I" } : Jvm.MethodName), prog_14_method_129_code, 4, (Option.some Jvm.ClassFile.FieldType.int))
  | 18 => (({ cls := "FrescoWallModel", name := "boxOf", desc := "(III)I" } : Jvm.MethodName), prog_14_method_130_code, 7, (Option.some Jvm.ClassFile.FieldType.int))
  | 19 => (({ cls := "FrescoWallModel", name := "box", desc := "(III)I" } : Jvm.MethodName), prog_14_method_131_code, 5, (Option.some Jvm.ClassFile.FieldType.int))
  | 20 => (({ cls := "FrescoWallModel", name := "skill", desc := "(III)I" } : Jvm.MethodName), prog_14_method_132_code, 5, (Option.some Jvm.ClassFile.FieldType.int))
  | 21 => (({ cls := "FrescoWallModel", name := "goesOn", desc := "(III)I" } : Jvm.MethodName), prog_14_method_133_code, 4, (Option.some Jvm.ClassFile.FieldType.int))
  | 22 => (({ cls := "FrescoWallModel", name := "shares", desc := "()I" } : Jvm.MethodName), prog_14_method_134_code, 6, (Option.some Jvm.ClassFile.FieldType.int))
  | 23 => (({ cls := "FrescoWallModel", name := "share", desc := "(I)I" } : Jvm.MethodName), prog_14_method_135_code, 3, (Option.some Jvm.ClassFile.FieldType.int))
  | 24 => (({ cls := "FrescoWallModel", name := "count", desc := "(I)I" } : Jvm.MethodName), prog_14_method_136_code, 4, (Option.some Jvm.ClassFile.FieldType.int))
  | 25 => (({ cls := "FrescoWall$Place", name := "of", desc := "(III)J" } : Jvm.MethodName), prog_8_method_2_code, 3, (Option.some Jvm.ClassFile.FieldType.long))
  | 26 => (({ cls := "FrescoWall$Place", name := "turn", desc := "(J)I" } : Jvm.MethodName), prog_8_method_3_code, 2, (Option.some Jvm.ClassFile.FieldType.int))
  | 27 => (({ cls := "FrescoWall$Place", name := "x", desc := "(J)I" } : Jvm.MethodName), prog_8_method_4_code, 2, (Option.some Jvm.ClassFile.FieldType.int))
  | 28 => (({ cls := "FrescoWall$Place", name := "y", desc := "(J)I" } : Jvm.MethodName), prog_8_method_5_code, 2, (Option.some Jvm.ClassFile.FieldType.int))
  | 29 => (({ cls := "FrescoWall$Place", name := "turnedX", desc := "(III)I" } : Jvm.MethodName), prog_8_method_6_code, 3, (Option.some Jvm.ClassFile.FieldType.int))
  | 30 => (({ cls := "FrescoWall$Place", name := "turnedY", desc := "(III)I" } : Jvm.MethodName), prog_8_method_7_code, 3, (Option.some Jvm.ClassFile.FieldType.int))
  | 31 => (({ cls := "FrescoWall$Place", name := "cellX", desc := "(III)I" } : Jvm.MethodName), prog_8_method_8_code, 3, (Option.some Jvm.ClassFile.FieldType.int))
  | 32 => (({ cls := "FrescoWall$Place", name := "cellY", desc := "(III)I" } : Jvm.MethodName), prog_8_method_9_code, 3, (Option.some Jvm.ClassFile.FieldType.int))
  | 33 => (({ cls := "FrescoWall$Place", name := "onto", desc := "(JJ)J" } : Jvm.MethodName), prog_8_method_10_code, 7, (Option.some Jvm.ClassFile.FieldType.long))
  | 34 => (({ cls := "FrescoWall$Place", name := "inverse", desc := "(J)J" } : Jvm.MethodName), prog_8_method_11_code, 5, (Option.some Jvm.ClassFile.FieldType.long))
  | 35 => (({ cls := "FrescoWall$Place", name := "against", desc := "(JJ)J" } : Jvm.MethodName), prog_8_method_12_code, 4, (Option.some Jvm.ClassFile.FieldType.long))
  | 36 => (({ cls := "FrescoWall$Place", name := "move", desc := "(JJ)J" } : Jvm.MethodName), prog_8_method_13_code, 4, (Option.some Jvm.ClassFile.FieldType.long))
  | 37 => (({ cls := "java/lang/Integer", name := "bitCount", desc := "(I)I" } : Jvm.MethodName), prog_16_method_49_code, 1, (Option.some Jvm.ClassFile.FieldType.int))
  | 38 => (({ cls := "java/lang/Integer", name := "compare", desc := "(II)I" } : Jvm.MethodName), prog_16_method_40_code, 2, (Option.some Jvm.ClassFile.FieldType.int))
  | _ => (({ cls := "java/lang/Integer", name := "numberOfTrailingZeros", desc := "(I)I" } : Jvm.MethodName), prog_16_method_48_code, 2, (Option.some Jvm.ClassFile.FieldType.int))
def km_t8 (k : Nat) : km_T := match k with
  | 0 => (({ cls := "java/lang/Long", name := "bitCount", desc := "(J)I" } : Jvm.MethodName), prog_17_method_50_code, 2, (Option.some Jvm.ClassFile.FieldType.int))
  | 1 => (({ cls := "java/lang/Math", name := "abs", desc := "(I)I" } : Jvm.MethodName), prog_18_method_59_code, 1, (Option.some Jvm.ClassFile.FieldType.int))
  | 2 => (({ cls := "java/lang/Math", name := "max", desc := "(II)I" } : Jvm.MethodName), prog_18_method_65_code, 2, (Option.some Jvm.ClassFile.FieldType.int))
  | _ => (({ cls := "java/lang/Math", name := "min", desc := "(II)I" } : Jvm.MethodName), prog_18_method_69_code, 2, (Option.some Jvm.ClassFile.FieldType.int))
def km_t (M : Nat) : km_T := match M / 40 with
  | 0 => km_t0 (M % 40)
  | 1 => km_t1 (M % 40)
  | 2 => km_t2 (M % 40)
  | 3 => km_t3 (M % 40)
  | 4 => km_t4 (M % 40)
  | 5 => km_t5 (M % 40)
  | 6 => km_t6 (M % 40)
  | 7 => km_t7 (M % 40)
  | _ => km_t8 (M % 40)
def km_y (M : Nat) : MethodName := (km_t M).1
def km_b (M : Nat) : ByteArray := (km_t M).2.1
def km_n (M : Nat) : Nat := (km_t M).2.2.1
def km_r (M : Nat) : Option FieldType := (km_t M).2.2.2
def km_w (M : Nat) : List Cond := .code (km_y M) (km_b M) (km_n M) (km_r M) :: jm_tb
