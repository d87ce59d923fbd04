/-! Tables of the mini machine, written by wip/whole/gen_data.py out of the claim's own words: classes, methods, links, allocation sites. -/
def mT0 : u_T := fun k => match k with
  | 0 => ("PlaceNets", "script", "LPlaceNets$Script;", true)
  | 1 => ("PlaceNets", "told", "LPlaceNets$Net;", false)
  | 2 => ("PlaceNets", "spare", "LPlaceNets$Net;", false)
  | 3 => ("PlaceNets", "marking", "[I", true)
  | 4 => ("PlaceNets", "wanted", "[I", true)
  | 5 => ("PlaceNets", "acts", "[I", true)
  | 6 => ("PlaceNets", "actCount", "I", false)
  | 7 => ("PlaceNets", "netVersion", "I", false)
  | 8 => ("PlaceNets", "markingVersion", "I", false)
  | 9 => ("PlaceNets", "cover", "LPlaceNets$Cover;", false)
  | 10 => ("PlaceNets", "reach", "LPlaceNets$Reach;", false)
  | 11 => ("PlaceNets", "placeFlows", "LPlaceNets$Flows;", false)
  | 12 => ("PlaceNets", "transitionFlows", "LPlaceNets$Flows;", false)
  | 13 => ("PlaceNets", "sets", "LPlaceNets$Sets;", false)
  | _ => ("PlaceNets", "unfolding", "LPlaceNets$Unfolding;", false)
def mt0 : Nat → FieldType := fun k => match k with
  | 0 => (.object "PlaceNets$Script")
  | 1 => (.object "PlaceNets$Net")
  | 2 => (.object "PlaceNets$Net")
  | 3 => (.array .int)
  | 4 => (.array .int)
  | 5 => (.array .int)
  | 6 => .int
  | 7 => .int
  | 8 => .int
  | 9 => (.object "PlaceNets$Cover")
  | 10 => (.object "PlaceNets$Reach")
  | 11 => (.object "PlaceNets$Flows")
  | 12 => (.object "PlaceNets$Flows")
  | 13 => (.object "PlaceNets$Sets")
  | _ => (.object "PlaceNets$Unfolding")
def mT1 : u_T := fun k => match k with
  | 0 => ("PlaceNets$Script", "length", "I", false)
  | 1 => ("PlaceNets$Script", "signs", "[C", true)
  | 2 => ("PlaceNets$Script", "at", "I", false)
  | _ => ("PlaceNets$Script", "fault", "I", false)
def mt1 : Nat → FieldType := fun k => match k with
  | 0 => .int
  | 1 => (.array .char)
  | 2 => .int
  | _ => .int
def mT2 : u_T := fun k => match k with
  | 0 => ("PlaceNets$Net", "places", "I", false)
  | 1 => ("PlaceNets$Net", "transitions", "I", false)
  | 2 => ("PlaceNets$Net", "first", "[I", true)
  | 3 => ("PlaceNets$Net", "takes", "[I", true)
  | _ => ("PlaceNets$Net", "puts", "[I", true)
def mt2 : Nat → FieldType := fun k => match k with
  | 0 => .int
  | 1 => .int
  | 2 => (.array .int)
  | 3 => (.array .int)
  | _ => (.array .int)
def mT3 : u_T := fun k => match k with
  | 0 => ("PlaceNets$Cover", "version", "I", false)
  | 1 => ("PlaceNets$Cover", "nodes", "I", false)
  | 2 => ("PlaceNets$Cover", "tooMany", "Z", false)
  | 3 => ("PlaceNets$Cover", "held", "[I", true)
  | 4 => ("PlaceNets$Cover", "origin", "[I", true)
  | 5 => ("PlaceNets$Cover", "via", "[I", true)
  | 6 => ("PlaceNets$Cover", "ending", "[I", true)
  | _ => ("PlaceNets$Cover", "places", "I", false)
def mt3 : Nat → FieldType := fun k => match k with
  | 0 => .int
  | 1 => .int
  | 2 => .boolean
  | 3 => (.array .int)
  | 4 => (.array .int)
  | 5 => (.array .int)
  | 6 => (.array .int)
  | _ => .int
def mT4 : u_T := fun k => match k with
  | 0 => ("PlaceNets$Flows", "version", "I", false)
  | 1 => ("PlaceNets$Flows", "count", "I", false)
  | 2 => ("PlaceNets$Flows", "tooFar", "Z", false)
  | 3 => ("PlaceNets$Flows", "ofPlaces", "Z", true)
  | 4 => ("PlaceNets$Flows", "rows", "[I", false)
  | 5 => ("PlaceNets$Flows", "coming", "[I", false)
  | 6 => ("PlaceNets$Flows", "changes", "[I", true)
  | 7 => ("PlaceNets$Flows", "used", "[I", true)
  | 8 => ("PlaceNets$Flows", "goes", "[Z", true)
  | 9 => ("PlaceNets$Flows", "order", "[I", true)
  | 10 => ("PlaceNets$Flows", "sum", "[J", true)
  | 11 => ("PlaceNets$Flows", "width", "I", false)
  | _ => ("PlaceNets$Flows", "steps", "I", false)
def mt4 : Nat → FieldType := fun k => match k with
  | 0 => .int
  | 1 => .int
  | 2 => .boolean
  | 3 => .boolean
  | 4 => (.array .int)
  | 5 => (.array .int)
  | 6 => (.array .int)
  | 7 => (.array .int)
  | 8 => (.array .boolean)
  | 9 => (.array .int)
  | 10 => (.array .long)
  | 11 => .int
  | _ => .int
def mT5 : u_T := fun k => match k with
  | 0 => ("PlaceNets$Reach", "version", "I", false)
  | 1 => ("PlaceNets$Reach", "count", "I", false)
  | 2 => ("PlaceNets$Reach", "tooMany", "Z", false)
  | 3 => ("PlaceNets$Reach", "depth", "[I", true)
  | 4 => ("PlaceNets$Reach", "held", "[I", true)
  | 5 => ("PlaceNets$Reach", "ready", "[I", true)
  | 6 => ("PlaceNets$Reach", "origin", "[I", true)
  | 7 => ("PlaceNets$Reach", "via", "[I", true)
  | 8 => ("PlaceNets$Reach", "next", "[I", true)
  | 9 => ("PlaceNets$Reach", "ahead", "[I", true)
  | 10 => ("PlaceNets$Reach", "slots", "[I", true)
  | 11 => ("PlaceNets$Reach", "coming", "[I", true)
  | 12 => ("PlaceNets$Reach", "places", "I", false)
  | _ => ("PlaceNets$Reach", "transitions", "I", false)
def mt5 : Nat → FieldType := fun k => match k with
  | 0 => .int
  | 1 => .int
  | 2 => .boolean
  | 3 => (.array .int)
  | 4 => (.array .int)
  | 5 => (.array .int)
  | 6 => (.array .int)
  | 7 => (.array .int)
  | 8 => (.array .int)
  | 9 => (.array .int)
  | 10 => (.array .int)
  | 11 => (.array .int)
  | 12 => .int
  | _ => .int
def mT6 : u_T := fun k => match k with
  | 0 => ("PlaceNets$Sets", "version", "I", false)
  | 1 => ("PlaceNets$Sets", "siphons", "[I", true)
  | 2 => ("PlaceNets$Sets", "traps", "[I", true)
  | 3 => ("PlaceNets$Sets", "takenFrom", "[I", true)
  | 4 => ("PlaceNets$Sets", "putInto", "[I", true)
  | 5 => ("PlaceNets$Sets", "siphonCount", "I", false)
  | 6 => ("PlaceNets$Sets", "trapCount", "I", false)
  | _ => ("PlaceNets$Sets", "transitions", "I", false)
def mt6 : Nat → FieldType := fun k => match k with
  | 0 => .int
  | 1 => (.array .int)
  | 2 => (.array .int)
  | 3 => (.array .int)
  | 4 => (.array .int)
  | 5 => .int
  | 6 => .int
  | _ => .int
def mT7 : u_T := fun k => match k with
  | 0 => ("PlaceNets$Unfolding", "version", "I", false)
  | 1 => ("PlaceNets$Unfolding", "events", "I", false)
  | 2 => ("PlaceNets$Unfolding", "conditions", "I", false)
  | 3 => ("PlaceNets$Unfolding", "tooMany", "Z", false)
  | 4 => ("PlaceNets$Unfolding", "left", "[I", true)
  | 5 => ("PlaceNets$Unfolding", "transition", "[I", true)
  | 6 => ("PlaceNets$Unfolding", "past", "[I", true)
  | 7 => ("PlaceNets$Unfolding", "cut", "[Z", true)
  | 8 => ("PlaceNets$Unfolding", "had", "[I", true)
  | 9 => ("PlaceNets$Unfolding", "hadCount", "[I", true)
  | 10 => ("PlaceNets$Unfolding", "place", "[I", true)
  | 11 => ("PlaceNets$Unfolding", "origin", "[I", true)
  | 12 => ("PlaceNets$Unfolding", "together", "[I", true)
  | 13 => ("PlaceNets$Unfolding", "start", "[I", true)
  | 14 => ("PlaceNets$Unfolding", "missing", "[I", true)
  | 15 => ("PlaceNets$Unfolding", "picked", "[I", true)
  | 16 => ("PlaceNets$Unfolding", "beside", "[I", true)
  | 17 => ("PlaceNets$Unfolding", "places", "I", false)
  | 18 => ("PlaceNets$Unfolding", "pastSize", "I", false)
  | _ => ("PlaceNets$Unfolding", "oldConditions", "I", false)
def mt7 : Nat → FieldType := fun k => match k with
  | 0 => .int
  | 1 => .int
  | 2 => .int
  | 3 => .boolean
  | 4 => (.array .int)
  | 5 => (.array .int)
  | 6 => (.array .int)
  | 7 => (.array .boolean)
  | 8 => (.array .int)
  | 9 => (.array .int)
  | 10 => (.array .int)
  | 11 => (.array .int)
  | 12 => (.array .int)
  | 13 => (.array .int)
  | 14 => (.array .int)
  | 15 => (.array .int)
  | 16 => (.array .int)
  | 17 => .int
  | 18 => .int
  | _ => .int
def mT8 : u_T := fun k => match k with
  | 0 => ("PlaceNetsModel", "thrown", "I", false)
  | 1 => ("PlaceNetsModel", "text", "[B", true)
  | 2 => ("PlaceNetsModel", "texted", "I", false)
  | 3 => ("PlaceNetsModel", "reading", "I", false)
  | 4 => ("PlaceNetsModel", "fault", "I", false)
  | 5 => ("PlaceNetsModel", "isGood", "Z", false)
  | 6 => ("PlaceNetsModel", "places", "I", false)
  | 7 => ("PlaceNetsModel", "transitions", "I", false)
  | 8 => ("PlaceNetsModel", "takes", "[I", true)
  | 9 => ("PlaceNetsModel", "puts", "[I", true)
  | 10 => ("PlaceNetsModel", "now", "[I", true)
  | 11 => ("PlaceNetsModel", "first", "[I", true)
  | 12 => ("PlaceNetsModel", "goal", "[I", true)
  | 13 => ("PlaceNetsModel", "newPlaces", "I", false)
  | 14 => ("PlaceNetsModel", "newTransitions", "I", false)
  | 15 => ("PlaceNetsModel", "newTakes", "[I", true)
  | 16 => ("PlaceNetsModel", "newPuts", "[I", true)
  | 17 => ("PlaceNetsModel", "newFirst", "[I", true)
  | 18 => ("PlaceNetsModel", "isNet", "Z", false)
  | 19 => ("PlaceNetsModel", "undos", "[I", true)
  | 20 => ("PlaceNetsModel", "nUndo", "I", false)
  | 21 => ("PlaceNetsModel", "isCovered", "Z", false)
  | 22 => ("PlaceNetsModel", "node", "[I", true)
  | 23 => ("PlaceNetsModel", "nodeOf", "[I", true)
  | 24 => ("PlaceNetsModel", "nodeBy", "[I", true)
  | 25 => ("PlaceNetsModel", "nodeEnd", "[I", true)
  | 26 => ("PlaceNetsModel", "nodes", "I", false)
  | 27 => ("PlaceNetsModel", "isReached", "Z", false)
  | 28 => ("PlaceNetsModel", "marking", "[I", true)
  | 29 => ("PlaceNetsModel", "metOf", "[I", true)
  | 30 => ("PlaceNetsModel", "metBy", "[I", true)
  | 31 => ("PlaceNetsModel", "far", "[I", true)
  | 32 => ("PlaceNetsModel", "comes", "[I", true)
  | 33 => ("PlaceNetsModel", "markings", "I", false)
  | 34 => ("PlaceNetsModel", "comesTo", "[Z", true)
  | 35 => ("PlaceNetsModel", "isFlow", "[Z", true)
  | 36 => ("PlaceNetsModel", "flowMany", "[I", true)
  | 37 => ("PlaceNetsModel", "flowRow", "[I", true)
  | 38 => ("PlaceNetsModel", "work", "[J", true)
  | 39 => ("PlaceNetsModel", "workMany", "I", false)
  | 40 => ("PlaceNetsModel", "fresh", "[J", true)
  | 41 => ("PlaceNetsModel", "freshMany", "I", false)
  | 42 => ("PlaceNetsModel", "isTooFar", "Z", false)
  | 43 => ("PlaceNetsModel", "pair", "[J", true)
  | 44 => ("PlaceNetsModel", "isSo", "[Z", true)
  | 45 => ("PlaceNetsModel", "isUnfolded", "Z", false)
  | 46 => ("PlaceNetsModel", "isGreat", "Z", false)
  | 47 => ("PlaceNetsModel", "events", "I", false)
  | 48 => ("PlaceNetsModel", "eventBy", "[I", true)
  | 49 => ("PlaceNetsModel", "eventHas", "[I", true)
  | 50 => ("PlaceNetsModel", "eventMany", "[I", true)
  | 51 => ("PlaceNetsModel", "past", "[I", true)
  | 52 => ("PlaceNetsModel", "isCut", "[Z", true)
  | 53 => ("PlaceNetsModel", "left", "[I", true)
  | 54 => ("PlaceNetsModel", "against", "[I", true)
  | 55 => ("PlaceNetsModel", "conditions", "I", false)
  | 56 => ("PlaceNetsModel", "placeOf", "[I", true)
  | 57 => ("PlaceNetsModel", "comesOf", "[I", true)
  | 58 => ("PlaceNetsModel", "hadBy", "[I", true)
  | 59 => ("PlaceNetsModel", "wants", "[I", true)
  | 60 => ("PlaceNetsModel", "wantMany", "I", false)
  | 61 => ("PlaceNetsModel", "chosen", "[I", true)
  | 62 => ("PlaceNetsModel", "best", "[I", true)
  | 63 => ("PlaceNetsModel", "bestBy", "I", false)
  | 64 => ("PlaceNetsModel", "bestSize", "I", false)
  | _ => ("PlaceNetsModel", "rising", "[I", true)
def mt8 : Nat → FieldType := fun k => match k with
  | 0 => .int
  | 1 => (.array .byte)
  | 2 => .int
  | 3 => .int
  | 4 => .int
  | 5 => .boolean
  | 6 => .int
  | 7 => .int
  | 8 => (.array .int)
  | 9 => (.array .int)
  | 10 => (.array .int)
  | 11 => (.array .int)
  | 12 => (.array .int)
  | 13 => .int
  | 14 => .int
  | 15 => (.array .int)
  | 16 => (.array .int)
  | 17 => (.array .int)
  | 18 => .boolean
  | 19 => (.array .int)
  | 20 => .int
  | 21 => .boolean
  | 22 => (.array .int)
  | 23 => (.array .int)
  | 24 => (.array .int)
  | 25 => (.array .int)
  | 26 => .int
  | 27 => .boolean
  | 28 => (.array .int)
  | 29 => (.array .int)
  | 30 => (.array .int)
  | 31 => (.array .int)
  | 32 => (.array .int)
  | 33 => .int
  | 34 => (.array .boolean)
  | 35 => (.array .boolean)
  | 36 => (.array .int)
  | 37 => (.array .int)
  | 38 => (.array .long)
  | 39 => .int
  | 40 => (.array .long)
  | 41 => .int
  | 42 => .boolean
  | 43 => (.array .long)
  | 44 => (.array .boolean)
  | 45 => .boolean
  | 46 => .boolean
  | 47 => .int
  | 48 => (.array .int)
  | 49 => (.array .int)
  | 50 => (.array .int)
  | 51 => (.array .int)
  | 52 => (.array .boolean)
  | 53 => (.array .int)
  | 54 => (.array .int)
  | 55 => .int
  | 56 => (.array .int)
  | 57 => (.array .int)
  | 58 => (.array .int)
  | 59 => (.array .int)
  | 60 => .int
  | 61 => (.array .int)
  | 62 => (.array .int)
  | 63 => .int
  | 64 => .int
  | _ => (.array .int)
def mCl : List vw_C := [("PlaceNets", mT0, 15), ("PlaceNets$Script", mT1, 4), ("PlaceNets$Net", mT2, 5), ("PlaceNets$Cover", mT3, 8), ("PlaceNets$Flows", mT4, 13), ("PlaceNets$Reach", mT5, 14), ("PlaceNets$Sets", mT6, 8), ("PlaceNets$Unfolding", mT7, 20), ("PlaceNetsModel", mT8, 66)]
def mTy (ci : Nat) : Nat → FieldType := match ci with
  | 0 => mt0
  | 1 => mt1
  | 2 => mt2
  | 3 => mt3
  | 4 => mt4
  | 5 => mt5
  | 6 => mt6
  | 7 => mt7
  | _ => mt8
def mNf (ci : Nat) : Nat := match ci with
  | 0 => 15
  | 1 => 4
  | 2 => 5
  | 3 => 8
  | 4 => 13
  | 5 => 14
  | 6 => 8
  | 7 => 20
  | 8 => 66
  | _ => 0
def mOw (o : Nat) : String := match o with
  | 0 => "PlaceNetsLaw"
  | 1 => "PlaceNets"
  | 2 => "PlaceNets$Script"
  | 3 => "PlaceNets$Net"
  | 4 => "PlaceNets$Cover"
  | 5 => "PlaceNets$Flows"
  | 6 => "PlaceNets$Reach"
  | 7 => "PlaceNets$Sets"
  | 8 => "PlaceNets$Unfolding"
  | 9 => "PlaceNetsModel"
  | 10 => "java/lang/Integer"
  | 11 => "java/util/Arrays"
  | _ => ""
/-- positions in lw_tbl of the words that a class has: lays of its fields, instantiable, initialized -/
def mClP : List (List Nat × Nat × Nat) := [([221, 223, 225, 227, 229, 231, 233, 235, 237, 239, 241, 243, 245, 247, 249], 132, 114), ([150, 152, 154, 156], 140, 115), ([194, 196, 198, 200, 202], 161, 116), ([422, 424, 426, 428, 430, 432, 434, 436], 407, 126), ([673, 675, 677, 679, 681, 683, 685, 687, 689, 691, 693, 695, 697], 653, 128), ([537, 539, 541, 543, 545, 547, 549, 551, 553, 555, 557, 559, 561, 563], 515, 127), ([796, 798, 800, 802, 804, 806, 808, 810], 783, 129), ([937, 939, 941, 943, 945, 947, 949, 951, 953, 955, 957, 959, 961, 963, 965, 967, 969, 971, 973, 975], 908, 130), ([1214, 1216, 1218, 1220, 1222, 1224, 1226, 1228, 1230, 1232, 1234, 1236, 1238, 1240, 1242, 1244, 1246, 1248, 1250, 1252, 1254, 1256, 1258, 1260, 1262, 1264, 1266, 1268, 1270, 1272, 1274, 1276, 1278, 1280, 1282, 1284, 1286, 1288, 1290, 1292, 1294, 1296, 1298, 1300, 1302, 1304, 1306, 1308, 1310, 1312, 1314, 1316, 1318, 1320, 1322, 1324, 1326, 1328, 1330, 1332, 1334, 1336, 1338, 1340, 1342, 1344], 1143, 117)]
/-- a method: name, bytes, locals, what it answers, its owner, how many arguments (the receiver among them), the receiver's class (99: static), whether a constructor -/
abbrev mG : Type := MethodName × ByteArray × Nat × Option FieldType × Nat × Nat × Nat × Bool
def mGm : List mG := [
  (x, code, 7, ret, 0, 1, 99, false),
  (⟨"PlaceNets", "<init>", "()V"⟩, prog_1_method_1_code, 1, none, 1, 1, 0, true),
  (⟨"PlaceNets$Script", "<init>", "()V"⟩, prog_6_method_1_code, 1, none, 2, 1, 1, true),
  (⟨"PlaceNets$Net", "<init>", "()V"⟩, prog_4_method_1_code, 1, none, 3, 1, 2, true),
  (⟨"PlaceNets", "sign", "(I)I"⟩, prog_1_method_2_code, 2, (some .int), 1, 2, 0, false),
  (⟨"PlaceNets$Script", "addFour", "(I)I"⟩, prog_6_method_2_code, 3, (some .int), 2, 2, 1, false),
  (⟨"PlaceNets", "end", "(I)Z"⟩, prog_1_method_3_code, 2, (some .boolean), 1, 2, 0, false),
  (⟨"PlaceNets$Script", "shorten", "(I)Z"⟩, prog_6_method_3_code, 2, (some .boolean), 2, 2, 1, false),
  (⟨"PlaceNets", "net", "()I"⟩, prog_1_method_4_code, 3, (some .int), 1, 1, 0, false),
  (⟨"PlaceNets$Script", "readInto", "(LPlaceNets$Net;)I"⟩, prog_6_method_4_code, 3, (some .int), 2, 2, 1, false),
  (⟨"PlaceNets$Net", "clear", "()V"⟩, prog_4_method_2_code, 1, none, 3, 1, 2, false),
  (⟨"java/util/Arrays", "fill", "([II)V"⟩, prog_18_method_103_code, 4, none, 11, 2, 99, false),
  (⟨"PlaceNets$Script", "readPart", "(LPlaceNets$Net;)V"⟩, prog_6_method_5_code, 2, none, 2, 2, 1, false),
  (⟨"PlaceNets$Script", "skipBlanks", "()V"⟩, prog_6_method_8_code, 2, none, 2, 1, 1, false),
  (⟨"PlaceNets$Script", "isAt", "(C)Z"⟩, prog_6_method_9_code, 2, (some .boolean), 2, 2, 1, false),
  (⟨"PlaceNets$Script", "readTokens", "(LPlaceNets$Net;[III)V"⟩, prog_6_method_7_code, 9, none, 2, 5, 1, false),
  (⟨"PlaceNets$Script", "isBetween", "(CC)Z"⟩, prog_6_method_10_code, 3, (some .boolean), 2, 3, 1, false),
  (⟨"PlaceNets$Script", "readTransition", "(LPlaceNets$Net;)V"⟩, prog_6_method_6_code, 3, none, 2, 2, 1, false),
  (⟨"PlaceNets", "tokens", "(II)I"⟩, prog_1_method_6_code, 3, (some .int), 1, 3, 0, false),
  (⟨"PlaceNets$Net", "hasPlace", "(I)Z"⟩, prog_4_method_3_code, 2, (some .boolean), 3, 2, 2, false),
  (⟨"PlaceNets", "can", "()I"⟩, prog_1_method_7_code, 1, (some .int), 1, 1, 0, false),
  (⟨"PlaceNets", "hasNet", "()Z"⟩, prog_1_method_32_code, 1, (some .boolean), 1, 1, 0, false),
  (⟨"PlaceNets$Net", "readyBits", "([I)I"⟩, prog_4_method_7_code, 4, (some .int), 3, 2, 2, false),
  (⟨"PlaceNets$Net", "isReady", "([II)Z"⟩, prog_4_method_6_code, 5, (some .boolean), 3, 3, 2, false),
  (⟨"PlaceNets", "fire", "(I)I"⟩, prog_1_method_8_code, 2, (some .int), 1, 2, 0, false),
  (⟨"PlaceNets$Net", "hasTransition", "(I)Z"⟩, prog_4_method_4_code, 2, (some .boolean), 3, 2, 2, false),
  (⟨"PlaceNets", "keepAct", "()V"⟩, prog_1_method_35_code, 1, none, 1, 1, 0, false),
  (⟨"PlaceNets$Net", "move", "([II)V"⟩, prog_4_method_8_code, 4, none, 3, 3, 2, false),
  (⟨"PlaceNets$Net", "change", "(II)I"⟩, prog_4_method_5_code, 3, (some .int), 3, 3, 2, false),
  (⟨"java/lang/Integer", "bitCount", "(I)I"⟩, prog_13_method_49_code, 1, (some .int), 10, 1, 99, false),
  (⟨"PlaceNets", "put", "(II)I"⟩, prog_1_method_9_code, 4, (some .int), 1, 3, 0, false),
  (⟨"PlaceNets", "isTokenNumber", "(I)Z"⟩, prog_1_method_33_code, 1, (some .boolean), 1, 1, 99, false),
  (⟨"PlaceNets", "run", "(II)I"⟩, prog_1_method_10_code, 7, (some .int), 1, 3, 0, false),
  (⟨"PlaceNets", "bitAt", "(II)I"⟩, prog_1_method_36_code, 4, (some .int), 1, 2, 99, false),
  (⟨"PlaceNets", "home", "()I"⟩, prog_1_method_11_code, 1, (some .int), 1, 1, 0, false),
  (⟨"PlaceNets", "tokensInAll", "()I"⟩, prog_1_method_34_code, 3, (some .int), 1, 1, 0, false),
  (⟨"PlaceNets", "undo", "()I"⟩, prog_1_method_12_code, 1, (some .int), 1, 1, 0, false),
  (⟨"PlaceNets", "goal", "(II)I"⟩, prog_1_method_13_code, 4, (some .int), 1, 3, 0, false),
  (⟨"PlaceNets", "node", "(II)I"⟩, prog_1_method_14_code, 5, (some .int), 1, 3, 0, false),
  (⟨"PlaceNets", "coverNow", "()LPlaceNets$Cover;"⟩, prog_1_method_37_code, 1, (some (.object "PlaceNets$Cover")), 1, 1, 0, false),
  (⟨"PlaceNets$Cover", "<init>", "()V"⟩, prog_2_method_1_code, 1, none, 4, 1, 3, true),
  (⟨"PlaceNets$Cover", "build", "(LPlaceNets$Net;[I)V"⟩, prog_2_method_2_code, 4, none, 4, 3, 3, false),
  (⟨"PlaceNets$Cover", "isOld", "(I)Z"⟩, prog_2_method_8_code, 3, (some .boolean), 4, 2, 3, false),
  (⟨"PlaceNets$Cover", "isSame", "(II)Z"⟩, prog_2_method_9_code, 4, (some .boolean), 4, 3, 3, false),
  (⟨"PlaceNets$Cover", "grow", "(LPlaceNets$Net;I)Z"⟩, prog_2_method_3_code, 5, (some .boolean), 4, 3, 3, false),
  (⟨"PlaceNets$Cover", "isEnough", "(LPlaceNets$Net;II)Z"⟩, prog_2_method_4_code, 5, (some .boolean), 4, 4, 3, false),
  (⟨"PlaceNets$Cover", "addNode", "(LPlaceNets$Net;II)V"⟩, prog_2_method_5_code, 6, none, 4, 4, 3, false),
  (⟨"PlaceNets$Cover", "isWithin", "(II)Z"⟩, prog_2_method_6_code, 4, (some .boolean), 4, 3, 3, false),
  (⟨"PlaceNets$Cover", "raise", "(II)V"⟩, prog_2_method_7_code, 4, none, 4, 3, 3, false),
  (⟨"PlaceNets$Cover", "tell", "(II)I"⟩, prog_2_method_10_code, 3, (some .int), 4, 3, 3, false),
  (⟨"PlaceNets$Cover", "shown", "(I)I"⟩, prog_2_method_11_code, 1, (some .int), 4, 1, 99, false),
  (⟨"PlaceNets", "bound", "(I)I"⟩, prog_1_method_15_code, 3, (some .int), 1, 2, 0, false),
  (⟨"PlaceNets$Cover", "mostIn", "(I)I"⟩, prog_2_method_12_code, 4, (some .int), 4, 2, 3, false),
  (⟨"PlaceNets", "covers", "(I)I"⟩, prog_1_method_16_code, 3, (some .int), 1, 2, 0, false),
  (⟨"PlaceNets$Cover", "leastAbove", "([I)I"⟩, prog_2_method_13_code, 3, (some .int), 4, 2, 3, false),
  (⟨"PlaceNets$Cover", "isAbove", "(I[I)Z"⟩, prog_2_method_15_code, 4, (some .boolean), 4, 3, 3, false),
  (⟨"PlaceNets$Cover", "countAbove", "([I)I"⟩, prog_2_method_14_code, 4, (some .int), 4, 2, 3, false),
  (⟨"PlaceNets", "reached", "(II)I"⟩, prog_1_method_17_code, 5, (some .int), 1, 3, 0, false),
  (⟨"PlaceNets", "reachNow", "()LPlaceNets$Reach;"⟩, prog_1_method_38_code, 1, (some (.object "PlaceNets$Reach")), 1, 1, 0, false),
  (⟨"PlaceNets$Reach", "<init>", "()V"⟩, prog_5_method_1_code, 1, none, 6, 1, 5, true),
  (⟨"PlaceNets$Reach", "build", "(LPlaceNets$Net;[I)V"⟩, prog_5_method_2_code, 4, none, 6, 3, 5, false),
  (⟨"PlaceNets$Reach", "add", "(LPlaceNets$Net;[III)I"⟩, prog_5_method_4_code, 6, (some .int), 6, 5, 5, false),
  (⟨"PlaceNets$Reach", "slotOf", "([I)I"⟩, prog_5_method_6_code, 5, (some .int), 6, 2, 5, false),
  (⟨"PlaceNets$Reach", "isSame", "(I[I)Z"⟩, prog_5_method_7_code, 4, (some .boolean), 6, 3, 5, false),
  (⟨"PlaceNets$Reach", "spread", "(LPlaceNets$Net;I)V"⟩, prog_5_method_3_code, 5, none, 6, 3, 5, false),
  (⟨"PlaceNets$Reach", "find", "([I)I"⟩, prog_5_method_5_code, 2, (some .int), 6, 2, 5, false),
  (⟨"PlaceNets$Reach", "lookAhead", "()V"⟩, prog_5_method_8_code, 5, none, 6, 1, 5, false),
  (⟨"PlaceNets$Reach", "aheadOfNext", "(I)I"⟩, prog_5_method_9_code, 4, (some .int), 6, 2, 5, false),
  (⟨"PlaceNets$Reach", "tell", "(II)I"⟩, prog_5_method_10_code, 3, (some .int), 6, 3, 5, false),
  (⟨"PlaceNets", "dead", "(I)I"⟩, prog_1_method_18_code, 3, (some .int), 1, 2, 0, false),
  (⟨"PlaceNets$Reach", "countDead", "()I"⟩, prog_5_method_11_code, 3, (some .int), 6, 1, 5, false),
  (⟨"PlaceNets$Reach", "leastDead", "()I"⟩, prog_5_method_12_code, 2, (some .int), 6, 1, 5, false),
  (⟨"PlaceNets$Reach", "countComingTo", "(I)I"⟩, prog_5_method_13_code, 4, (some .int), 6, 2, 5, false),
  (⟨"PlaceNets", "alive", "(I)I"⟩, prog_1_method_19_code, 3, (some .int), 1, 2, 0, false),
  (⟨"PlaceNets$Reach", "liveness", "(I)I"⟩, prog_5_method_14_code, 3, (some .int), 6, 2, 5, false),
  (⟨"PlaceNets", "way", "(I)I"⟩, prog_1_method_20_code, 4, (some .int), 1, 2, 0, false),
  (⟨"PlaceNets$Reach", "stepTo", "(II)I"⟩, prog_5_method_15_code, 5, (some .int), 6, 3, 5, false),
  (⟨"PlaceNets", "flow", "(III)I"⟩, prog_1_method_21_code, 6, (some .int), 1, 4, 0, false),
  (⟨"PlaceNets", "flowsNow", "(I)LPlaceNets$Flows;"⟩, prog_1_method_39_code, 2, (some (.object "PlaceNets$Flows")), 1, 2, 0, false),
  (⟨"PlaceNets", "placeFlowsNow", "()LPlaceNets$Flows;"⟩, prog_1_method_40_code, 1, (some (.object "PlaceNets$Flows")), 1, 1, 0, false),
  (⟨"PlaceNets$Flows", "<init>", "(Z)V"⟩, prog_3_method_1_code, 2, none, 5, 2, 4, true),
  (⟨"PlaceNets$Flows", "build", "(LPlaceNets$Net;)V"⟩, prog_3_method_2_code, 3, none, 5, 2, 4, false),
  (⟨"PlaceNets$Flows", "settle", "(LPlaceNets$Net;I)V"⟩, prog_3_method_3_code, 8, none, 5, 3, 4, false),
  (⟨"PlaceNets$Flows", "changeOf", "(LPlaceNets$Net;[III)J"⟩, prog_3_method_5_code, 10, (some .long), 5, 5, 4, false),
  (⟨"PlaceNets$Flows", "copyUnchanged", "()I"⟩, prog_3_method_4_code, 3, (some .int), 5, 1, 4, false),
  (⟨"PlaceNets$Flows", "join", "(III)V"⟩, prog_3_method_6_code, 9, none, 5, 4, 4, false),
  (⟨"PlaceNets$Flows", "commonDivisor", "(JJ)J"⟩, prog_3_method_7_code, 11, (some .long), 5, 2, 99, false),
  (⟨"PlaceNets$Flows", "isTooGreat", "(LPlaceNets$Net;I)Z"⟩, prog_3_method_8_code, 4, (some .boolean), 5, 3, 4, false),
  (⟨"PlaceNets$Flows", "dropRows", "()V"⟩, prog_3_method_9_code, 3, none, 5, 1, 4, false),
  (⟨"PlaceNets$Flows", "usedBy", "(I)I"⟩, prog_3_method_10_code, 4, (some .int), 5, 2, 4, false),
  (⟨"PlaceNets$Flows", "isBeaten", "(I)Z"⟩, prog_3_method_11_code, 4, (some .boolean), 5, 2, 4, false),
  (⟨"PlaceNets$Flows", "sortRows", "()V"⟩, prog_3_method_12_code, 3, none, 5, 1, 4, false),
  (⟨"PlaceNets", "transitionFlowsNow", "()LPlaceNets$Flows;"⟩, prog_1_method_41_code, 1, (some (.object "PlaceNets$Flows")), 1, 1, 0, false),
  (⟨"PlaceNets$Flows", "tell", "(II)I"⟩, prog_3_method_13_code, 3, (some .int), 5, 3, 4, false),
  (⟨"PlaceNets", "kept", "(I)I"⟩, prog_1_method_22_code, 3, (some .int), 1, 2, 0, false),
  (⟨"PlaceNets$Flows", "weigh", "(I[I)I"⟩, prog_3_method_14_code, 6, (some .int), 5, 3, 4, false),
  (⟨"PlaceNets", "least", "(II)I"⟩, prog_1_method_23_code, 4, (some .int), 1, 3, 0, false),
  (⟨"PlaceNets", "setsNow", "()LPlaceNets$Sets;"⟩, prog_1_method_42_code, 1, (some (.object "PlaceNets$Sets")), 1, 1, 0, false),
  (⟨"PlaceNets$Sets", "<init>", "()V"⟩, prog_7_method_1_code, 1, none, 7, 1, 6, true),
  (⟨"PlaceNets$Sets", "build", "(LPlaceNets$Net;)V"⟩, prog_7_method_2_code, 3, none, 7, 2, 6, false),
  (⟨"PlaceNets$Net", "takenFrom", "(I)I"⟩, prog_4_method_9_code, 2, (some .int), 3, 2, 2, false),
  (⟨"PlaceNets$Net", "placesIn", "([II)I"⟩, prog_4_method_11_code, 5, (some .int), 3, 3, 2, false),
  (⟨"PlaceNets$Net", "putInto", "(I)I"⟩, prog_4_method_10_code, 2, (some .int), 3, 2, 2, false),
  (⟨"PlaceNets$Sets", "collect", "([I[I[II)I"⟩, prog_7_method_3_code, 7, (some .int), 7, 5, 6, false),
  (⟨"PlaceNets$Sets", "isClosed", "(I[I[I)Z"⟩, prog_7_method_4_code, 5, (some .boolean), 7, 4, 6, false),
  (⟨"PlaceNets$Sets", "holdsOneOf", "([III)Z"⟩, prog_7_method_5_code, 4, (some .boolean), 7, 3, 99, false),
  (⟨"PlaceNets$Sets", "countOf", "(I)I"⟩, prog_7_method_6_code, 2, (some .int), 7, 2, 6, false),
  (⟨"PlaceNets$Sets", "tell", "(II)I"⟩, prog_7_method_7_code, 3, (some .int), 7, 3, 6, false),
  (⟨"PlaceNets", "trapIn", "(I)I"⟩, prog_1_method_24_code, 2, (some .int), 1, 2, 0, false),
  (⟨"PlaceNets$Sets", "greatestTrap", "(I)I"⟩, prog_7_method_8_code, 5, (some .int), 7, 2, 6, false),
  (⟨"PlaceNets", "kinds", "()I"⟩, prog_1_method_25_code, 1, (some .int), 1, 1, 0, false),
  (⟨"PlaceNets$Net", "isPlain", "()Z"⟩, prog_4_method_14_code, 2, (some .boolean), 3, 1, 2, false),
  (⟨"PlaceNets$Net", "isPure", "()Z"⟩, prog_4_method_15_code, 2, (some .boolean), 3, 1, 2, false),
  (⟨"PlaceNets$Net", "isMachine", "()Z"⟩, prog_4_method_16_code, 2, (some .boolean), 3, 1, 2, false),
  (⟨"PlaceNets$Net", "sumOf", "([II)I"⟩, prog_4_method_13_code, 5, (some .int), 3, 3, 2, false),
  (⟨"PlaceNets$Net", "isCircuit", "()Z"⟩, prog_4_method_17_code, 4, (some .boolean), 3, 1, 2, false),
  (⟨"PlaceNets$Net", "isFree", "()Z"⟩, prog_4_method_18_code, 5, (some .boolean), 3, 1, 2, false),
  (⟨"PlaceNets", "caught", "()I"⟩, prog_1_method_26_code, 1, (some .int), 1, 1, 0, false),
  (⟨"PlaceNets$Sets", "allMarked", "([I)Z"⟩, prog_7_method_9_code, 3, (some .boolean), 7, 2, 6, false),
  (⟨"PlaceNets$Sets", "isMarked", "(I[I)Z"⟩, prog_7_method_10_code, 3, (some .boolean), 7, 2, 99, false),
  (⟨"PlaceNets", "event", "(II)I"⟩, prog_1_method_27_code, 5, (some .int), 1, 3, 0, false),
  (⟨"PlaceNets", "unfoldingNow", "()LPlaceNets$Unfolding;"⟩, prog_1_method_43_code, 1, (some (.object "PlaceNets$Unfolding")), 1, 1, 0, false),
  (⟨"PlaceNets$Unfolding", "<init>", "()V"⟩, prog_8_method_1_code, 1, none, 8, 1, 7, true),
  (⟨"PlaceNets$Unfolding", "build", "(LPlaceNets$Net;[I)V"⟩, prog_8_method_2_code, 4, none, 8, 3, 7, false),
  (⟨"PlaceNets$Unfolding", "isTooGreat", "(LPlaceNets$Net;)Z"⟩, prog_8_method_4_code, 5, (some .boolean), 8, 2, 7, false),
  (⟨"PlaceNets$Net", "takenInAll", "(I)I"⟩, prog_4_method_12_code, 2, (some .int), 3, 2, 2, false),
  (⟨"PlaceNets$Unfolding", "addConditions", "(III)V"⟩, prog_8_method_5_code, 5, none, 8, 4, 7, false),
  (⟨"PlaceNets$Unfolding", "joinOthers", "(II)V"⟩, prog_8_method_6_code, 4, none, 8, 3, 7, false),
  (⟨"java/util/Arrays", "fill", "([IIII)V"⟩, prog_18_method_104_code, 5, none, 11, 4, 99, false),
  (⟨"java/util/Arrays", "rangeCheck", "(III)V"⟩, prog_18_method_30_code, 3, none, 11, 3, 99, false),
  (⟨"PlaceNets$Unfolding", "findEvents", "(LPlaceNets$Net;I)V"⟩, prog_8_method_3_code, 4, none, 8, 3, 7, false),
  (⟨"PlaceNets$Unfolding", "pick", "(LPlaceNets$Net;IIII)V"⟩, prog_8_method_9_code, 8, none, 8, 6, 7, false),
  (⟨"PlaceNets$Unfolding", "addEvent", "(LPlaceNets$Net;III)V"⟩, prog_8_method_12_code, 7, none, 8, 5, 7, false),
  (⟨"PlaceNets$Unfolding", "leave", "(LPlaceNets$Net;I)V"⟩, prog_8_method_13_code, 6, none, 8, 3, 7, false),
  (⟨"PlaceNets$Unfolding", "isCut", "(I)Z"⟩, prog_8_method_14_code, 3, (some .boolean), 8, 2, 7, false),
  (⟨"PlaceNets$Unfolding", "isLeft", "(I[II)Z"⟩, prog_8_method_15_code, 5, (some .boolean), 8, 4, 7, false),
  (⟨"PlaceNets$Unfolding", "gatherBeside", "(I)V"⟩, prog_8_method_7_code, 4, none, 8, 2, 7, false),
  (⟨"PlaceNets$Unfolding", "pastOf", "(I)I"⟩, prog_8_method_10_code, 2, (some .int), 8, 2, 7, false),
  (⟨"PlaceNets$Unfolding", "isFit", "(II)Z"⟩, prog_8_method_11_code, 4, (some .boolean), 8, 3, 7, false),
  (⟨"PlaceNets$Unfolding", "areTogether", "(II)Z"⟩, prog_8_method_8_code, 3, (some .boolean), 8, 3, 7, false),
  (⟨"PlaceNets$Unfolding", "tellEvent", "(II)I"⟩, prog_8_method_16_code, 3, (some .int), 8, 3, 7, false),
  (⟨"PlaceNets", "condition", "(II)I"⟩, prog_1_method_28_code, 5, (some .int), 1, 3, 0, false),
  (⟨"PlaceNets$Unfolding", "tellCondition", "(II)I"⟩, prog_8_method_17_code, 3, (some .int), 8, 3, 7, false),
  (⟨"PlaceNets", "atOnce", "(II)I"⟩, prog_1_method_29_code, 4, (some .int), 1, 3, 0, false),
  (⟨"PlaceNets", "leaves", "(II)I"⟩, prog_1_method_30_code, 4, (some .int), 1, 3, 0, false),
  (⟨"PlaceNets", "count", "(I)I"⟩, prog_1_method_31_code, 2, (some .int), 1, 2, 0, false),
  (⟨"PlaceNets", "arc", "(III)I"⟩, prog_1_method_5_code, 4, (some .int), 1, 4, 0, false),
  (⟨"PlaceNetsModel", "<init>", "()V"⟩, prog_10_method_1_code, 1, none, 9, 1, 8, true),
  (⟨"PlaceNetsModel", "thrown", "()I"⟩, prog_10_method_2_code, 1, (some .int), 9, 1, 8, false),
  (⟨"PlaceNetsModel", "sign", "(I)I"⟩, prog_10_method_4_code, 3, (some .int), 9, 2, 8, false),
  (⟨"PlaceNetsModel", "end", "(I)Z"⟩, prog_10_method_5_code, 2, (some .boolean), 9, 2, 8, false),
  (⟨"PlaceNetsModel", "in", "(JJJ)Z"⟩, prog_10_method_3_code, 6, (some .boolean), 9, 3, 99, false),
  (⟨"PlaceNetsModel", "net", "()I"⟩, prog_10_method_10_code, 2, (some .int), 9, 1, 8, false),
  (⟨"PlaceNetsModel", "readPart", "()V"⟩, prog_10_method_9_code, 2, none, 9, 1, 8, false),
  (⟨"PlaceNetsModel", "next", "()I"⟩, prog_10_method_7_code, 1, (some .int), 9, 1, 8, false),
  (⟨"PlaceNetsModel", "readTokens", "([III)V"⟩, prog_10_method_8_code, 7, none, 9, 4, 8, false),
  (⟨"PlaceNetsModel", "wrong", "(I)V"⟩, prog_10_method_6_code, 2, none, 9, 2, 8, false),
  (⟨"PlaceNetsModel", "become", "()V"⟩, prog_10_method_11_code, 2, none, 9, 1, 8, false),
  (⟨"PlaceNetsModel", "changed", "()V"⟩, prog_10_method_12_code, 1, none, 9, 1, 8, false),
  (⟨"PlaceNetsModel", "arc", "(III)I"⟩, prog_10_method_17_code, 4, (some .int), 9, 4, 8, false),
  (⟨"PlaceNetsModel", "isTransition", "(I)Z"⟩, prog_10_method_14_code, 2, (some .boolean), 9, 2, 8, false),
  (⟨"PlaceNetsModel", "isPlace", "(I)Z"⟩, prog_10_method_13_code, 2, (some .boolean), 9, 2, 8, false),
  (⟨"PlaceNetsModel", "takesOf", "(II)I"⟩, prog_10_method_15_code, 3, (some .int), 9, 3, 8, false),
  (⟨"PlaceNetsModel", "putsOf", "(II)I"⟩, prog_10_method_16_code, 3, (some .int), 9, 3, 8, false),
  (⟨"PlaceNetsModel", "tokens", "(II)I"⟩, prog_10_method_18_code, 3, (some .int), 9, 3, 8, false),
  (⟨"PlaceNetsModel", "can", "()I"⟩, prog_10_method_22_code, 1, (some .int), 9, 1, 8, false),
  (⟨"PlaceNetsModel", "canBy", "([II)I"⟩, prog_10_method_20_code, 5, (some .int), 9, 3, 8, false),
  (⟨"PlaceNetsModel", "can", "([IIII)Z"⟩, prog_10_method_19_code, 8, (some .boolean), 9, 5, 8, false),
  (⟨"PlaceNetsModel", "fire", "(I)I"⟩, prog_10_method_25_code, 2, (some .int), 9, 2, 8, false),
  (⟨"PlaceNetsModel", "remember", "()V"⟩, prog_10_method_23_code, 2, none, 9, 1, 8, false),
  (⟨"PlaceNetsModel", "fireNow", "(I)V"⟩, prog_10_method_24_code, 3, none, 9, 2, 8, false),
  (⟨"PlaceNetsModel", "ones", "(I)I"⟩, prog_10_method_21_code, 3, (some .int), 9, 1, 99, false),
  (⟨"PlaceNetsModel", "put", "(II)I"⟩, prog_10_method_26_code, 4, (some .int), 9, 3, 8, false),
  (⟨"PlaceNetsModel", "run", "(II)I"⟩, prog_10_method_28_code, 7, (some .int), 9, 3, 8, false),
  (⟨"PlaceNetsModel", "drawn", "(II)I"⟩, prog_10_method_27_code, 5, (some .int), 9, 3, 8, false),
  (⟨"PlaceNetsModel", "home", "()I"⟩, prog_10_method_30_code, 2, (some .int), 9, 1, 8, false),
  (⟨"PlaceNetsModel", "allTokens", "()I"⟩, prog_10_method_29_code, 3, (some .int), 9, 1, 8, false),
  (⟨"PlaceNetsModel", "undo", "()I"⟩, prog_10_method_31_code, 2, (some .int), 9, 1, 8, false),
  (⟨"PlaceNetsModel", "goal", "(II)I"⟩, prog_10_method_32_code, 4, (some .int), 9, 3, 8, false),
  (⟨"PlaceNetsModel", "node", "(II)I"⟩, prog_10_method_39_code, 4, (some .int), 9, 3, 8, false),
  (⟨"PlaceNetsModel", "cover", "()V"⟩, prog_10_method_37_code, 4, none, 9, 1, 8, false),
  (⟨"PlaceNetsModel", "layNode", "(II)V"⟩, prog_10_method_33_code, 6, none, 9, 3, 8, false),
  (⟨"PlaceNetsModel", "grow", "(II)V"⟩, prog_10_method_34_code, 5, none, 9, 3, 8, false),
  (⟨"PlaceNetsModel", "canCovered", "(I)I"⟩, prog_10_method_36_code, 4, (some .int), 9, 2, 8, false),
  (⟨"PlaceNetsModel", "isOld", "(I)Z"⟩, prog_10_method_35_code, 5, (some .boolean), 9, 2, 8, false),
  (⟨"PlaceNetsModel", "shown", "(I)I"⟩, prog_10_method_38_code, 1, (some .int), 9, 1, 99, false),
  (⟨"PlaceNetsModel", "bound", "(I)I"⟩, prog_10_method_40_code, 4, (some .int), 9, 2, 8, false),
  (⟨"PlaceNetsModel", "covers", "(I)I"⟩, prog_10_method_42_code, 5, (some .int), 9, 2, 8, false),
  (⟨"PlaceNetsModel", "covers1", "(I)Z"⟩, prog_10_method_41_code, 4, (some .boolean), 9, 2, 8, false),
  (⟨"PlaceNetsModel", "reached", "(II)I"⟩, prog_10_method_46_code, 4, (some .int), 9, 3, 8, false),
  (⟨"PlaceNetsModel", "reach", "()V"⟩, prog_10_method_45_code, 3, none, 9, 1, 8, false),
  (⟨"PlaceNetsModel", "goFrom", "(II)V"⟩, prog_10_method_44_code, 4, none, 9, 3, 8, false),
  (⟨"PlaceNetsModel", "known", "()I"⟩, prog_10_method_43_code, 4, (some .int), 9, 1, 8, false),
  (⟨"PlaceNetsModel", "dead", "(I)I"⟩, prog_10_method_49_code, 6, (some .int), 9, 2, 8, false),
  (⟨"PlaceNetsModel", "isDead", "(I)Z"⟩, prog_10_method_48_code, 2, (some .boolean), 9, 2, 8, false),
  (⟨"PlaceNetsModel", "back", "()I"⟩, prog_10_method_47_code, 5, (some .int), 9, 1, 8, false),
  (⟨"PlaceNetsModel", "alive", "(I)I"⟩, prog_10_method_50_code, 4, (some .int), 9, 2, 8, false),
  (⟨"PlaceNetsModel", "way", "(I)I"⟩, prog_10_method_52_code, 3, (some .int), 9, 2, 8, false),
  (⟨"PlaceNetsModel", "goalAt", "()I"⟩, prog_10_method_51_code, 4, (some .int), 9, 1, 8, false),
  (⟨"PlaceNetsModel", "flow", "(III)I"⟩, prog_10_method_63_code, 4, (some .int), 9, 4, 8, false),
  (⟨"PlaceNetsModel", "width", "(I)I"⟩, prog_10_method_53_code, 2, (some .int), 9, 2, 8, false),
  (⟨"PlaceNetsModel", "layFlows", "(I)V"⟩, prog_10_method_62_code, 6, none, 9, 2, 8, false),
  (⟨"PlaceNetsModel", "startRows", "(I)V"⟩, prog_10_method_54_code, 7, none, 9, 2, 8, false),
  (⟨"PlaceNetsModel", "oneStep", "(I)V"⟩, prog_10_method_61_code, 4, none, 9, 2, 8, false),
  (⟨"PlaceNetsModel", "addRow", "([JI)V"⟩, prog_10_method_57_code, 4, none, 9, 3, 8, false),
  (⟨"PlaceNetsModel", "addPair", "(III)V"⟩, prog_10_method_58_code, 11, none, 9, 4, 8, false),
  (⟨"PlaceNetsModel", "size", "(J)J"⟩, prog_10_method_55_code, 2, (some .long), 9, 1, 99, false),
  (⟨"PlaceNetsModel", "common", "(JJ)J"⟩, prog_10_method_56_code, 10, (some .long), 9, 2, 99, false),
  (⟨"PlaceNetsModel", "goesAway", "(I)Z"⟩, prog_10_method_60_code, 6, (some .boolean), 9, 2, 8, false),
  (⟨"PlaceNetsModel", "support", "([JI)I"⟩, prog_10_method_59_code, 5, (some .int), 9, 3, 8, false),
  (⟨"PlaceNetsModel", "kept", "(I)I"⟩, prog_10_method_64_code, 5, (some .int), 9, 2, 8, false),
  (⟨"PlaceNetsModel", "least", "(II)I"⟩, prog_10_method_69_code, 5, (some .int), 9, 3, 8, false),
  (⟨"PlaceNetsModel", "laySiphons", "(I)V"⟩, prog_10_method_67_code, 3, none, 9, 2, 8, false),
  (⟨"PlaceNetsModel", "isSiphon", "(II)Z"⟩, prog_10_method_66_code, 7, (some .boolean), 9, 3, 8, false),
  (⟨"PlaceNetsModel", "setOf", "([II)I"⟩, prog_10_method_65_code, 5, (some .int), 9, 3, 8, false),
  (⟨"PlaceNetsModel", "isLeast", "(I)Z"⟩, prog_10_method_68_code, 4, (some .boolean), 9, 2, 8, false),
  (⟨"PlaceNetsModel", "trapIn", "(I)I"⟩, prog_10_method_71_code, 2, (some .int), 9, 2, 8, false),
  (⟨"PlaceNetsModel", "trapOf", "(I)I"⟩, prog_10_method_70_code, 6, (some .int), 9, 2, 8, false),
  (⟨"PlaceNetsModel", "caught", "()I"⟩, prog_10_method_72_code, 6, (some .int), 9, 1, 8, false),
  (⟨"PlaceNetsModel", "kinds", "()I"⟩, prog_10_method_76_code, 8, (some .int), 9, 1, 8, false),
  (⟨"PlaceNetsModel", "sumOf", "([II)I"⟩, prog_10_method_73_code, 5, (some .int), 9, 3, 8, false),
  (⟨"PlaceNetsModel", "isPlain", "()Z"⟩, prog_10_method_74_code, 3, (some .boolean), 9, 1, 8, false),
  (⟨"PlaceNetsModel", "isCircuit", "()Z"⟩, prog_10_method_75_code, 6, (some .boolean), 9, 1, 8, false),
  (⟨"PlaceNetsModel", "event", "(II)I"⟩, prog_10_method_90_code, 3, (some .int), 9, 3, 8, false),
  (⟨"PlaceNetsModel", "unfold", "()V"⟩, prog_10_method_89_code, 3, none, 9, 1, 8, false),
  (⟨"PlaceNetsModel", "addCondition", "(II)V"⟩, prog_10_method_77_code, 3, none, 9, 3, 8, false),
  (⟨"PlaceNetsModel", "choose", "(I)V"⟩, prog_10_method_86_code, 3, none, 9, 2, 8, false),
  (⟨"PlaceNetsModel", "layWants", "(I)V"⟩, prog_10_method_80_code, 4, none, 9, 2, 8, false),
  (⟨"PlaceNetsModel", "canChoose", "(II)Z"⟩, prog_10_method_81_code, 5, (some .boolean), 9, 3, 8, false),
  (⟨"PlaceNetsModel", "canHold", "(II)Z"⟩, prog_10_method_79_code, 8, (some .boolean), 9, 3, 8, false),
  (⟨"PlaceNetsModel", "pastOf", "(I)I"⟩, prog_10_method_78_code, 2, (some .int), 9, 2, 8, false),
  (⟨"PlaceNetsModel", "look", "(I)V"⟩, prog_10_method_85_code, 5, none, 9, 2, 8, false),
  (⟨"PlaceNetsModel", "sortChosen", "()V"⟩, prog_10_method_82_code, 3, none, 9, 1, 8, false),
  (⟨"PlaceNetsModel", "isLess", "()Z"⟩, prog_10_method_84_code, 2, (some .boolean), 9, 1, 8, false),
  (⟨"PlaceNetsModel", "isThere", "(I)Z"⟩, prog_10_method_83_code, 5, (some .boolean), 9, 2, 8, false),
  (⟨"PlaceNetsModel", "addEvent", "()V"⟩, prog_10_method_88_code, 5, none, 9, 1, 8, false),
  (⟨"PlaceNetsModel", "isCutOff", "(I)Z"⟩, prog_10_method_87_code, 5, (some .boolean), 9, 2, 8, false),
  (⟨"PlaceNetsModel", "condition", "(II)I"⟩, prog_10_method_91_code, 3, (some .int), 9, 3, 8, false),
  (⟨"PlaceNetsModel", "atOnce", "(II)I"⟩, prog_10_method_92_code, 3, (some .int), 9, 3, 8, false),
  (⟨"PlaceNetsModel", "leaves", "(II)I"⟩, prog_10_method_93_code, 3, (some .int), 9, 3, 8, false),
  (⟨"PlaceNetsModel", "count", "(I)I"⟩, prog_10_method_94_code, 2, (some .int), 9, 2, 8, false)]
def mGmP : List (Nat × Nat × Nat × Nat) := [(0, 0, 0, 0), (135, 114, 134, 0), (143, 115, 142, 0), (164, 116, 163, 0), (255, 114, 253, 254), (259, 115, 257, 258), (263, 114, 261, 262), (267, 115, 265, 266), (271, 114, 269, 270), (275, 115, 273, 274), (279, 116, 277, 278), (282, 118, 281, 0), (286, 115, 285, 0), (290, 115, 289, 1), (294, 115, 293, 2), (298, 115, 297, 3), (302, 115, 301, 4), (309, 115, 308, 5), (317, 114, 315, 316), (321, 116, 319, 320), (325, 114, 323, 324), (329, 114, 328, 6), (333, 116, 331, 332), (337, 116, 335, 336), (341, 114, 339, 340), (345, 116, 343, 344), (350, 114, 349, 7), (354, 116, 352, 353), (359, 116, 357, 358), (362, 125, 361, 0), (369, 114, 367, 368), (372, 114, 371, 0), (376, 114, 374, 375), (381, 114, 380, 0), (385, 114, 383, 384), (389, 114, 388, 8), (393, 114, 391, 392), (397, 114, 395, 396), (401, 114, 399, 400), (405, 114, 404, 9), (410, 126, 409, 0), (442, 126, 440, 441), (447, 126, 446, 10), (451, 126, 450, 11), (455, 126, 454, 12), (459, 126, 458, 13), (463, 126, 462, 14), (469, 126, 468, 15), (473, 126, 472, 16), (477, 126, 475, 476), (480, 126, 479, 0), (484, 114, 482, 483), (488, 126, 486, 487), (493, 114, 491, 492), (497, 126, 495, 496), (501, 126, 500, 17), (505, 126, 503, 504), (509, 114, 507, 508), (513, 114, 512, 18), (518, 127, 517, 0), (569, 127, 567, 568), (574, 127, 573, 19), (579, 127, 578, 20), (583, 127, 582, 21), (588, 127, 587, 22), (593, 127, 591, 592), (597, 127, 596, 23), (601, 127, 600, 24), (605, 127, 603, 604), (609, 114, 607, 608), (613, 127, 611, 612), (617, 127, 615, 616), (621, 127, 619, 620), (625, 114, 623, 624), (629, 127, 627, 628), (634, 114, 632, 633), (639, 127, 637, 638), (643, 114, 641, 642), (647, 114, 646, 25), (651, 114, 650, 26), (656, 128, 655, 0), (705, 128, 703, 704), (710, 128, 709, 27), (714, 128, 713, 28), (719, 128, 718, 29), (724, 128, 723, 30), (727, 128, 726, 0), (735, 128, 734, 31), (744, 128, 743, 32), (748, 128, 747, 33), (752, 128, 751, 34), (756, 128, 755, 35), (760, 114, 759, 36), (764, 128, 762, 763), (768, 114, 766, 767), (772, 128, 770, 771), (777, 114, 775, 776), (781, 114, 780, 37), (786, 129, 785, 0), (816, 129, 814, 815), (820, 116, 818, 819), (824, 116, 823, 38), (828, 116, 826, 827), (832, 129, 831, 39), (836, 129, 835, 40), (839, 129, 838, 0), (843, 129, 841, 842), (847, 129, 845, 846), (852, 114, 850, 851), (856, 129, 854, 855), (860, 114, 858, 859), (864, 116, 862, 863), (868, 116, 866, 867), (874, 116, 872, 873), (878, 116, 877, 41), (882, 116, 880, 881), (886, 116, 884, 885), (890, 114, 888, 889), (894, 129, 892, 893), (898, 129, 897, 0), (902, 114, 900, 901), (906, 114, 905, 42), (911, 130, 910, 0), (981, 130, 979, 980), (986, 130, 985, 43), (990, 116, 988, 989), (995, 130, 994, 44), (999, 130, 998, 45), (1002, 118, 1001, 0), (1005, 118, 1004, 0), (1009, 130, 1008, 46), (1013, 130, 1012, 47), (1018, 130, 1017, 48), (1022, 130, 1021, 49), (1027, 130, 1026, 50), (1031, 130, 1030, 51), (1035, 130, 1034, 52), (1047, 130, 1046, 54), (1039, 130, 1038, 53), (1043, 130, 1041, 1042), (1051, 130, 1049, 1050), (1055, 114, 1053, 1054), (1059, 130, 1057, 1058), (1063, 114, 1061, 1062), (1068, 114, 1066, 1067), (1072, 114, 1070, 1071), (1080, 114, 1078, 1079), (1146, 117, 1145, 0), (1351, 117, 1349, 1350), (1355, 117, 1353, 1354), (1359, 117, 1357, 1358), (1362, 117, 1361, 0), (1366, 117, 1364, 1365), (1370, 117, 1369, 56), (1374, 117, 1373, 57), (1378, 117, 1377, 58), (1386, 117, 1385, 59), (1390, 117, 1389, 60), (1394, 117, 1393, 61), (1398, 117, 1396, 1397), (1402, 117, 1401, 62), (1406, 117, 1405, 63), (1410, 117, 1409, 64), (1414, 117, 1413, 65), (1418, 117, 1416, 1417), (1422, 117, 1420, 1421), (1426, 117, 1425, 66), (1430, 117, 1429, 67), (1435, 117, 1433, 1434), (1439, 117, 1438, 68), (1443, 117, 1442, 69), (1446, 117, 1445, 0), (1450, 117, 1448, 1449), (1455, 117, 1453, 1454), (1464, 117, 1463, 70), (1468, 117, 1466, 1467), (1472, 117, 1471, 71), (1476, 117, 1474, 1475), (1480, 117, 1478, 1479), (1484, 117, 1482, 1483), (1490, 117, 1489, 72), (1494, 117, 1493, 73), (1498, 117, 1497, 74), (1502, 117, 1501, 75), (1506, 117, 1505, 76), (1509, 117, 1508, 0), (1513, 117, 1511, 1512), (1517, 117, 1515, 1516), (1521, 117, 1520, 77), (1525, 117, 1523, 1524), (1530, 117, 1529, 78), (1534, 117, 1533, 79), (1538, 117, 1537, 80), (1542, 117, 1540, 1541), (1547, 117, 1546, 81), (1551, 117, 1550, 82), (1555, 117, 1553, 1554), (1559, 117, 1557, 1558), (1563, 117, 1562, 83), (1567, 117, 1565, 1566), (1571, 117, 1570, 84), (1575, 117, 1574, 85), (1579, 117, 1578, 86), (1583, 117, 1582, 87), (1587, 117, 1586, 88), (1591, 117, 1590, 89), (1594, 117, 1593, 0), (1597, 117, 1596, 0), (1602, 117, 1601, 90), (1606, 117, 1605, 91), (1610, 117, 1608, 1609), (1616, 117, 1614, 1615), (1620, 117, 1619, 92), (1624, 117, 1623, 93), (1628, 117, 1627, 94), (1632, 117, 1631, 95), (1636, 117, 1634, 1635), (1640, 117, 1639, 96), (1644, 117, 1642, 1643), (1648, 117, 1646, 1647), (1652, 117, 1651, 97), (1656, 117, 1655, 98), (1660, 117, 1659, 99), (1664, 117, 1662, 1663), (1668, 117, 1667, 100), (1672, 117, 1671, 101), (1676, 117, 1675, 102), (1680, 117, 1679, 103), (1684, 117, 1683, 104), (1688, 117, 1687, 105), (1692, 117, 1691, 106), (1696, 117, 1695, 107), (1700, 117, 1699, 108), (1704, 117, 1703, 109), (1708, 117, 1707, 110), (1712, 117, 1711, 111), (1716, 117, 1715, 112), (1720, 117, 1718, 1719), (1724, 117, 1722, 1723), (1728, 117, 1726, 1727), (1732, 117, 1730, 1731)]
/-- links of a class by its constant pool: fields (class, field, position of the word) -/
def mLF (o : Nat) : List (Nat × Nat × Nat × Nat) := match o with
  | 1 => [(264, (1, 0, 146)), (213, (2, 0, 173)), (73, (2, 1, 180)), (48, (2, 2, 183)), (85, (2, 3, 188)), (88, (2, 4, 191)), (10, (0, 0, 206)), (19, (0, 1, 207)), (23, (0, 2, 208)), (26, (0, 3, 209)), (30, (0, 4, 210)), (33, (0, 5, 211)), (63, (0, 6, 212)), (67, (0, 7, 213)), (70, (0, 8, 214)), (267, (0, 9, 215)), (279, (0, 10, 216)), (289, (0, 11, 217)), (300, (0, 12, 218)), (303, (0, 13, 219)), (310, (0, 14, 220)), (272, (3, 0, 412)), (137, (3, 1, 414)), (131, (3, 2, 416)), (284, (5, 0, 520)), (159, (5, 1, 522)), (156, (5, 2, 524)), (178, (5, 3, 526)), (296, (4, 0, 658)), (193, (4, 1, 660)), (188, (4, 2, 662)), (308, (6, 0, 788)), (315, (7, 0, 913)), (245, (7, 1, 915)), (251, (7, 2, 917)), (242, (7, 3, 919)), (261, (7, 4, 921))]
  | 2 => [(15, (1, 0, 145)), (9, (1, 1, 147)), (24, (1, 2, 148)), (27, (1, 3, 149)), (38, (2, 0, 172)), (55, (2, 1, 181)), (44, (2, 2, 184)), (58, (2, 3, 189)), (61, (2, 4, 192))]
  | 3 => [(21, (2, 0, 166)), (25, (2, 1, 175)), (9, (2, 2, 182)), (15, (2, 3, 185)), (18, (2, 4, 190))]
  | 4 => [(28, (2, 0, 167)), (52, (2, 1, 178)), (63, (2, 3, 187)), (41, (3, 1, 413)), (24, (3, 2, 415)), (11, (3, 3, 417)), (15, (3, 4, 418)), (18, (3, 5, 419)), (21, (3, 6, 420)), (34, (3, 7, 421))]
  | 5 => [(42, (2, 0, 170)), (48, (2, 1, 177)), (57, (4, 1, 659)), (39, (4, 2, 661)), (35, (4, 3, 663)), (11, (4, 4, 664)), (15, (4, 5, 665)), (18, (4, 6, 666)), (21, (4, 7, 667)), (24, (4, 8, 668)), (28, (4, 9, 669)), (31, (4, 10, 670)), (51, (4, 11, 671)), (54, (4, 12, 672))]
  | 6 => [(43, (2, 0, 168)), (50, (2, 1, 176)), (54, (5, 1, 521)), (39, (5, 2, 523)), (11, (5, 3, 525)), (15, (5, 4, 527)), (18, (5, 5, 528)), (21, (5, 6, 529)), (24, (5, 7, 530)), (27, (5, 8, 531)), (30, (5, 9, 532)), (33, (5, 10, 533)), (36, (5, 11, 534)), (49, (5, 12, 535)), (53, (5, 13, 536))]
  | 7 => [(36, (2, 0, 171)), (24, (2, 1, 174)), (11, (6, 1, 789)), (15, (6, 2, 790)), (18, (6, 3, 791)), (21, (6, 4, 792)), (43, (6, 5, 793)), (46, (6, 6, 794)), (30, (6, 7, 795))]
  | 8 => [(59, (2, 0, 169)), (99, (2, 1, 179)), (102, (2, 3, 186)), (150, (2, 4, 193)), (52, (7, 1, 914)), (56, (7, 2, 916)), (75, (7, 3, 918)), (11, (7, 4, 920)), (15, (7, 5, 922)), (18, (7, 6, 923)), (21, (7, 7, 924)), (25, (7, 8, 925)), (28, (7, 9, 926)), (31, (7, 10, 927)), (34, (7, 11, 928)), (37, (7, 12, 929)), (40, (7, 13, 930)), (43, (7, 14, 931)), (46, (7, 15, 932)), (49, (7, 16, 933)), (64, (7, 17, 934)), (93, (7, 18, 935)), (96, (7, 19, 936))]
  | 9 => [(136, (8, 0, 1148)), (7, (8, 1, 1149)), (140, (8, 2, 1150)), (154, (8, 3, 1151)), (151, (8, 4, 1152)), (147, (8, 5, 1153)), (195, (8, 6, 1154)), (189, (8, 7, 1155)), (13, (8, 8, 1156)), (17, (8, 9, 1157)), (20, (8, 10, 1158)), (23, (8, 11, 1159)), (26, (8, 12, 1160)), (169, (8, 13, 1161)), (180, (8, 14, 1162)), (29, (8, 15, 1163)), (32, (8, 16, 1164)), (35, (8, 17, 1165)), (192, (8, 18, 1166)), (38, (8, 19, 1167)), (198, (8, 20, 1168)), (204, (8, 21, 1169)), (41, (8, 22, 1170)), (44, (8, 23, 1171)), (47, (8, 24, 1172)), (50, (8, 25, 1173)), (264, (8, 26, 1174)), (207, (8, 27, 1175)), (53, (8, 28, 1176)), (56, (8, 29, 1177)), (59, (8, 30, 1178)), (62, (8, 31, 1179)), (65, (8, 32, 1180)), (293, (8, 33, 1181)), (68, (8, 34, 1182)), (72, (8, 35, 1183)), (75, (8, 36, 1184)), (78, (8, 37, 1185)), (81, (8, 38, 1186)), (321, (8, 39, 1187)), (85, (8, 40, 1188)), (324, (8, 41, 1189)), (327, (8, 42, 1190)), (88, (8, 43, 1191)), (91, (8, 44, 1192)), (210, (8, 45, 1193)), (398, (8, 46, 1194)), (404, (8, 47, 1195)), (94, (8, 48, 1196)), (97, (8, 49, 1197)), (100, (8, 50, 1198)), (103, (8, 51, 1199)), (106, (8, 52, 1200)), (109, (8, 53, 1201)), (112, (8, 54, 1202)), (395, (8, 55, 1203)), (115, (8, 56, 1204)), (118, (8, 57, 1205)), (121, (8, 58, 1206)), (124, (8, 59, 1207)), (407, (8, 60, 1208)), (127, (8, 61, 1209)), (130, (8, 62, 1210)), (419, (8, 63, 1211)), (416, (8, 64, 1212)), (133, (8, 65, 1213))]
  | _ => []
/-- methods (number, position of the word, 1: a nest mate's) -/
def mLM (o : Nat) : List (Nat × Nat × Nat × Nat) := match o with
  | 0 => [(15, (1, 133, 0)), (19, (4, 252, 0)), (24, (6, 260, 0)), (29, (8, 268, 0)), (43, (18, 314, 0)), (48, (20, 322, 0)), (52, (24, 338, 0)), (56, (30, 366, 0)), (60, (32, 373, 0)), (64, (34, 382, 0)), (68, (36, 390, 0)), (72, (37, 394, 0)), (76, (38, 398, 0)), (80, (51, 481, 0)), (84, (53, 490, 0)), (88, (57, 506, 0)), (92, (69, 606, 0)), (96, (73, 622, 0)), (100, (75, 631, 0)), (104, (77, 640, 0)), (108, (94, 765, 0)), (112, (96, 774, 0)), (116, (108, 849, 0)), (120, (110, 857, 0)), (124, (117, 887, 0)), (128, (120, 899, 0)), (132, (141, 1052, 0)), (136, (143, 1060, 0)), (140, (144, 1065, 0)), (144, (145, 1069, 0)), (7, (146, 1077, 0)), (18, (147, 1144, 0)), (40, (148, 1348, 0)), (23, (149, 1352, 0)), (28, (150, 1356, 0)), (33, (152, 1363, 0)), (39, (159, 1395, 0)), (47, (164, 1415, 0)), (51, (165, 1419, 0)), (55, (168, 1432, 0)), (59, (172, 1447, 0)), (63, (173, 1452, 0)), (67, (175, 1465, 0)), (71, (177, 1473, 0)), (75, (178, 1477, 0)), (79, (179, 1481, 0)), (83, (186, 1510, 0)), (87, (187, 1514, 0)), (91, (189, 1522, 0)), (95, (193, 1539, 0)), (99, (196, 1552, 0)), (103, (197, 1556, 0)), (107, (199, 1564, 0)), (111, (210, 1607, 0)), (115, (211, 1613, 0)), (119, (216, 1633, 0)), (127, (218, 1641, 0)), (123, (219, 1645, 0)), (131, (223, 1661, 0)), (135, (237, 1717, 0)), (139, (238, 1721, 0)), (143, (239, 1725, 0)), (147, (240, 1729, 0))]
  | 1 => [(1, (901, 136, 0)), (36, (5, 256, 0)), (40, (7, 264, 0)), (44, (9, 272, 0)), (51, (902, 310, 0)), (57, (11, 313, 0)), (79, (19, 318, 0)), (91, (21, 326, 0)), (95, (22, 330, 0)), (76, (25, 342, 0)), (99, (23, 346, 0)), (103, (26, 347, 0)), (106, (27, 351, 0)), (109, (29, 360, 0)), (114, (31, 370, 0)), (119, (33, 379, 0)), (123, (35, 386, 0)), (127, (39, 402, 0)), (275, (41, 439, 0)), (140, (49, 474, 0)), (143, (52, 485, 0)), (146, (54, 494, 0)), (149, (56, 502, 0)), (152, (58, 510, 0)), (285, (60, 566, 0)), (162, (68, 602, 0)), (163, (70, 610, 0)), (166, (71, 614, 0)), (169, (72, 618, 0)), (172, (74, 626, 0)), (175, (65, 635, 0)), (181, (76, 636, 0)), (184, (78, 644, 0)), (195, (79, 648, 0)), (293, (80, 654, 0)), (297, (81, 702, 0)), (286, (92, 757, 0)), (194, (93, 761, 0)), (199, (95, 769, 0)), (203, (97, 778, 0)), (309, (99, 813, 0)), (207, (106, 840, 0)), (212, (107, 844, 0)), (216, (109, 853, 0)), (219, (111, 861, 0)), (222, (112, 865, 0)), (225, (113, 871, 0)), (228, (115, 879, 0)), (231, (116, 883, 0)), (234, (118, 891, 0)), (238, (121, 903, 0)), (316, (123, 978, 0)), (248, (140, 1048, 0)), (254, (142, 1056, 0)), (257, (139, 1064, 0)), (9, (2, 141, 1)), (18, (3, 162, 1)), (271, (40, 408, 1)), (283, (59, 516, 1)), (307, (98, 784, 1)), (314, (122, 909, 1))]
  | 2 => [(3, (901, 144, 0)), (19, (10, 276, 0)), (30, (12, 283, 0)), (41, (13, 287, 0)), (34, (14, 291, 0)), (48, (15, 295, 0)), (64, (16, 299, 0)), (68, (903, 303, 0)), (52, (17, 306, 0))]
  | 3 => [(3, (901, 165, 0)), (28, (11, 280, 0)), (34, (23, 334, 0)), (38, (25, 355, 0)), (42, (28, 356, 0)), (46, (101, 821, 0)), (53, (100, 869, 0)), (57, (102, 870, 0)), (50, (114, 875, 0))]
  | 4 => [(3, (901, 411, 0)), (35, (902, 443, 0)), (44, (42, 444, 0)), (79, (43, 448, 0)), (48, (44, 452, 0)), (55, (45, 456, 0)), (59, (46, 460, 0)), (67, (28, 465, 0)), (71, (47, 466, 0)), (75, (48, 470, 0)), (82, (50, 478, 0)), (86, (903, 489, 0)), (91, (55, 498, 0))]
  | 5 => [(3, (901, 657, 0)), (60, (11, 706, 0)), (66, (82, 707, 0)), (73, (83, 711, 0)), (98, (28, 715, 0)), (77, (84, 716, 0)), (92, (902, 720, 0)), (81, (85, 721, 0)), (102, (86, 725, 0)), (108, (904, 729, 0)), (85, (87, 732, 0)), (114, (905, 737, 0)), (89, (88, 741, 0)), (120, (89, 745, 0)), (124, (90, 749, 0)), (70, (91, 753, 0))]
  | 6 => [(3, (901, 519, 0)), (57, (11, 570, 0)), (63, (61, 571, 0)), (74, (902, 575, 0)), (87, (62, 576, 0)), (93, (63, 580, 0)), (90, (22, 584, 0)), (67, (64, 585, 0)), (80, (27, 589, 0)), (83, (65, 590, 0)), (71, (66, 594, 0)), (97, (67, 598, 0)), (101, (72, 630, 0))]
  | 7 => [(3, (901, 787, 0)), (31, (100, 817, 0)), (34, (102, 825, 0)), (39, (103, 829, 0)), (49, (104, 833, 0)), (53, (105, 837, 0)), (57, (106, 848, 0)), (60, (109, 895, 0)), (63, (119, 896, 0))]
  | 8 => [(3, (901, 912, 0)), (65, (902, 982, 0)), (71, (124, 983, 0)), (105, (125, 987, 0)), (79, (11, 991, 0)), (85, (126, 992, 0)), (113, (127, 996, 0)), (117, (128, 1000, 0)), (89, (130, 1006, 0)), (109, (131, 1010, 0)), (120, (29, 1014, 0)), (125, (132, 1015, 0)), (139, (133, 1019, 0)), (153, (28, 1023, 0)), (142, (134, 1024, 0)), (157, (135, 1028, 0)), (146, (136, 1032, 0)), (129, (138, 1036, 0)), (136, (139, 1040, 0)), (133, (137, 1044, 0))]
  | 9 => [(1, (901, 1147, 0)), (143, (151, 1360, 0)), (183, (153, 1367, 0)), (157, (154, 1371, 0)), (176, (155, 1375, 0)), (172, (156, 1383, 0)), (186, (157, 1387, 0)), (201, (158, 1391, 0)), (213, (160, 1399, 0)), (217, (161, 1403, 0)), (220, (162, 1407, 0)), (224, (163, 1411, 0)), (232, (166, 1423, 0)), (228, (167, 1427, 0)), (236, (169, 1436, 0)), (239, (170, 1440, 0)), (242, (171, 1444, 0)), (258, (174, 1461, 0)), (261, (176, 1469, 0)), (284, (180, 1487, 0)), (271, (181, 1491, 0)), (267, (182, 1495, 0)), (274, (183, 1499, 0)), (277, (184, 1503, 0)), (287, (185, 1507, 0)), (290, (188, 1518, 0)), (304, (190, 1527, 0)), (299, (191, 1531, 0)), (296, (192, 1535, 0)), (309, (194, 1544, 0)), (312, (195, 1548, 0)), (315, (198, 1560, 0)), (318, (200, 1568, 0)), (361, (201, 1572, 0)), (355, (202, 1576, 0)), (358, (203, 1580, 0)), (340, (204, 1584, 0)), (348, (205, 1588, 0)), (330, (206, 1592, 0)), (334, (207, 1595, 0)), (352, (208, 1599, 0)), (344, (209, 1603, 0)), (376, (212, 1617, 0)), (372, (213, 1621, 0)), (369, (214, 1625, 0)), (379, (215, 1629, 0)), (382, (217, 1637, 0)), (385, (220, 1649, 0)), (388, (221, 1653, 0)), (392, (222, 1657, 0)), (449, (224, 1665, 0)), (440, (225, 1669, 0)), (443, (226, 1673, 0)), (428, (227, 1677, 0)), (431, (228, 1681, 0)), (410, (229, 1685, 0)), (401, (230, 1689, 0)), (434, (231, 1693, 0)), (413, (232, 1697, 0)), (422, (233, 1701, 0)), (425, (234, 1705, 0)), (446, (235, 1709, 0)), (437, (236, 1713, 0))]
  | 11 => [(13, (129, 1003, 0))]
  | _ => []
def mLC (o : Nat) : List (Nat × Nat × Nat) := match o with
  | 0 => [(8, (0, 131)), (16, (8, 1142))]
  | 1 => [(7, (1, 139)), (16, (2, 160)), (132, (3, 406)), (157, (5, 514)), (189, (4, 652)), (208, (6, 782)), (243, (7, 907))]
  | _ => []
def mLI (o : Nat) : List (Nat × Int32 × Nat) := match o with
  | 1 => [(117, (1000000, 377)), (118, (1000003, 378))]
  | 4 => [(66, (1000000, 464))]
  | 5 => [(113, (1000000000, 736))]
  | 9 => [(227, (1000000, 1431)), (368, (2147483647, 1612))]
  | 10 => [(265, (1431655765, 363)), (266, (858993459, 364)), (267, (252645135, 365))]
  | _ => []
def mLJ (o : Nat) : List (Nat × Int64 × Nat) := match o with
  | 5 => [(106, (1000000001, 728)), (118, (1000000000, 740)), (128, (2147483647, 773))]
  | 9 => [(161, (65, 1379)), (163, (74, 1380)), (165, (49, 1381)), (167, (57, 1382)), (246, (99, 1451)), (248, (999999, 1456)), (250, (200, 1457)), (252, (1103, 1458)), (254, (12345, 1459)), (256, (1000003, 1460)), (280, (10, 1485)), (282, (12, 1486)), (302, (11, 1526)), (307, (3, 1543)), (338, (1000000000, 1598)), (366, (2147483647, 1611))]
  | _ => []
/-- allocation sites: a cell made there by an object (or the law) b has the name 64 b + site -/
def mLN (mi : Nat) : List (Nat × Nat) := match mi with
  | 0 => [(0, 1), (8, 2), (17, 3)]
  | 1 => [(5, 1), (16, 2), (27, 3), (40, 4), (48, 5), (56, 6)]
  | 2 => [(8, 1)]
  | 3 => [(7, 1), (15, 2), (23, 3)]
  | 39 => [(8, 7)]
  | 40 => [(8, 1), (17, 2), (26, 3), (35, 4)]
  | 58 => [(8, 8)]
  | 59 => [(8, 1), (17, 2), (26, 3), (35, 4), (44, 5), (53, 6), (62, 7), (71, 8), (79, 9)]
  | 79 => [(8, 9)]
  | 80 => [(8, 1), (17, 2), (26, 3), (35, 4), (44, 5), (53, 6), (61, 7)]
  | 92 => [(8, 10)]
  | 97 => [(8, 11)]
  | 98 => [(8, 1), (17, 2), (25, 3), (33, 4)]
  | 121 => [(8, 12)]
  | 122 => [(8, 1), (16, 2), (24, 3), (32, 4), (40, 5), (48, 6), (56, 7), (64, 8), (73, 9), (81, 10), (89, 11), (96, 12), (103, 13)]
  | 147 => [(8, 1), (16, 2), (24, 3), (32, 4), (40, 5), (48, 6), (56, 7), (64, 8), (72, 9), (80, 10), (89, 11), (98, 12), (107, 13), (116, 14), (125, 15), (134, 16), (143, 17), (152, 18), (161, 19), (170, 20), (177, 21), (184, 22), (193, 23), (202, 24), (211, 25), (219, 26), (228, 27), (236, 28), (244, 29), (252, 30), (260, 31), (268, 32), (277, 33), (285, 34), (293, 35), (301, 36), (309, 37), (316, 38), (323, 39), (330, 40), (337, 41)]
  | _ => []
def mArP (ty : FieldType) : Nat := match ty with
  | .char => 159
  | .int => 205
  | .boolean => 700
  | .long => 701
  | .byte => 1347
  | _ => 0
