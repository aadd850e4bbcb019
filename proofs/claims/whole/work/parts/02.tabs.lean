/-! TABLES, by program: the methods, the links, by their places among the words -/
/-- a private method of the abstract class, selected by its heirs -/
def bz_su : List Cond := [.selects "BarcodeEngine$Codabar" ⟨"BarcodeEngine$Symbology", "findWhole", "(LBarcodeEngine$Row;LBarcodeEngine$Reading;)Z"⟩ ⟨"BarcodeEngine$Symbology", "findWhole", "(LBarcodeEngine$Row;LBarcodeEngine$Reading;)Z"⟩, .selects "BarcodeEngine$Ean8" ⟨"BarcodeEngine$Symbology", "findWhole", "(LBarcodeEngine$Row;LBarcodeEngine$Reading;)Z"⟩ ⟨"BarcodeEngine$Symbology", "findWhole", "(LBarcodeEngine$Row;LBarcodeEngine$Reading;)Z"⟩, .selects "BarcodeEngine$Interleaved" ⟨"BarcodeEngine$Symbology", "findWhole", "(LBarcodeEngine$Row;LBarcodeEngine$Reading;)Z"⟩ ⟨"BarcodeEngine$Symbology", "findWhole", "(LBarcodeEngine$Row;LBarcodeEngine$Reading;)Z"⟩, .selects "BarcodeEngine$Codabar" ⟨"BarcodeEngine$Symbology", "findParts", "(LBarcodeEngine$Row;LBarcodeEngine$Reading;)Z"⟩ ⟨"BarcodeEngine$Symbology", "findParts", "(LBarcodeEngine$Row;LBarcodeEngine$Reading;)Z"⟩, .selects "BarcodeEngine$Ean8" ⟨"BarcodeEngine$Symbology", "findParts", "(LBarcodeEngine$Row;LBarcodeEngine$Reading;)Z"⟩ ⟨"BarcodeEngine$Symbology", "findParts", "(LBarcodeEngine$Row;LBarcodeEngine$Reading;)Z"⟩, .selects "BarcodeEngine$Interleaved" ⟨"BarcodeEngine$Symbology", "findParts", "(LBarcodeEngine$Row;LBarcodeEngine$Reading;)Z"⟩ ⟨"BarcodeEngine$Symbology", "findParts", "(LBarcodeEngine$Row;LBarcodeEngine$Reading;)Z"⟩, .selects "BarcodeEngine$Codabar" ⟨"BarcodeEngine$Symbology", "addHead", "(LBarcodeEngine$Row;ILBarcodeEngine$Sequence;)V"⟩ ⟨"BarcodeEngine$Symbology", "addHead", "(LBarcodeEngine$Row;ILBarcodeEngine$Sequence;)V"⟩, .selects "BarcodeEngine$Ean8" ⟨"BarcodeEngine$Symbology", "addHead", "(LBarcodeEngine$Row;ILBarcodeEngine$Sequence;)V"⟩ ⟨"BarcodeEngine$Symbology", "addHead", "(LBarcodeEngine$Row;ILBarcodeEngine$Sequence;)V"⟩, .selects "BarcodeEngine$Interleaved" ⟨"BarcodeEngine$Symbology", "addHead", "(LBarcodeEngine$Row;ILBarcodeEngine$Sequence;)V"⟩ ⟨"BarcodeEngine$Symbology", "addHead", "(LBarcodeEngine$Row;ILBarcodeEngine$Sequence;)V"⟩, .selects "BarcodeEngine$Codabar" ⟨"BarcodeEngine$Symbology", "addTail", "(LBarcodeEngine$Row;ILBarcodeEngine$Sequence;)V"⟩ ⟨"BarcodeEngine$Symbology", "addTail", "(LBarcodeEngine$Row;ILBarcodeEngine$Sequence;)V"⟩, .selects "BarcodeEngine$Ean8" ⟨"BarcodeEngine$Symbology", "addTail", "(LBarcodeEngine$Row;ILBarcodeEngine$Sequence;)V"⟩ ⟨"BarcodeEngine$Symbology", "addTail", "(LBarcodeEngine$Row;ILBarcodeEngine$Sequence;)V"⟩, .selects "BarcodeEngine$Interleaved" ⟨"BarcodeEngine$Symbology", "addTail", "(LBarcodeEngine$Row;ILBarcodeEngine$Sequence;)V"⟩ ⟨"BarcodeEngine$Symbology", "addTail", "(LBarcodeEngine$Row;ILBarcodeEngine$Sequence;)V"⟩]
def bz_T : List Cond := bz_su ++ lw_tbl
def bz_own : List String := ["BarcodeEngine", "BarcodeEngine$Row", "BarcodeEngine$Ean8", "BarcodeEngine$Symbology", "BarcodeEngine$Interleaved", "BarcodeEngine$Codabar", "BarcodeEngine$Tally", "BarcodeEngine$Sequence", "BarcodeEngine$Scan", "BarcodeEngine$Reading", "java/lang/Math", "BarcodeEngineLaw", "java/lang/String", "java/lang/StringLatin1", "jdk/internal/util/Preconditions", "BarcodeEngineModel"]
set_option maxRecDepth 20000 in
def bz_mls : List Nat := [2, 1, 1, 5, 1, 1, 1, 1, 1, 1, 1, 5, 5, 1, 4, 1, 5, 3, 13, 6, 3, 6, 3, 6, 12, 3, 3, 1, 2, 3, 3, 6, 5, 4, 5, 7, 3, 4, 3, 3, 6, 6, 7, 6, 6, 3, 2, 7, 11, 3, 4, 4, 2, 2, 2, 2, 6, 3, 5, 3, 3, 4, 4, 4, 4, 8, 6, 3, 8, 8, 2, 3, 1, 2, 3, 1, 1, 1, 4, 1, 6, 3, 6, 4, 1, 7, 2, 6, 3, 7, 1, 8, 2, 3, 5, 5, 2, 2, 4, 6, 1, 2, 2, 2, 3, 9, 9, 4, 2, 3, 2, 3, 4, 2, 2, 5, 4, 2, 6, 6, 6, 5, 4, 3, 3, 5, 4, 6, 4, 6, 4, 4, 5, 3, 4, 6, 4, 2, 6, 5, 6, 5, 7, 6, 5, 3, 6, 8, 6, 8, 5, 8, 3, 7, 5, 15, 6, 6, 7, 7, 8, 4, 6, 4, 2, 6, 6, 5, 4, 5, 5, 8, 4, 2, 4, 2, 2, 4, 4, 4, 7, 4, 5, 4, 1, 1, 8, 10, 1, 6, 5, 2, 6, 1, 2, 3, 3, 3, 2, 4, 2, 4, 5, 10, 2, 2, 1, 2, 2, 3, 3, 5, 5, 3, 4, 6, 4, 3, 3, 3, 4, 4, 3, 5, 1, 3, 3, 11, 5, 5, 2, 3, 10, 2, 3, 2, 3, 6, 1, 3, 2, 3, 3, 4, 4, 4, 4, 6, 5, 3, 4, 4, 5, 4, 4, 4, 6, 3, 3, 6, 9, 7, 3, 5, 5, 6, 4, 4, 6, 7, 4, 4, 2, 3, 3, 4, 6, 4, 3, 4, 5, 4, 3, 4, 7, 2, 3, 4, 8, 2, 8, 4, 6, 8, 4, 7]
set_option maxRecDepth 20000 in
def bz_ocs : List Nat := [0, 1, 2, 3, 4, 5, 6, 7, 8, 9, 0, 0, 0, 0, 3, 9, 3, 5, 1, 1, 2, 1, 4, 2, 2, 1, 2, 10, 10, 7, 2, 3, 5, 3, 5, 4, 5, 4, 1, 9, 3, 3, 3, 6, 6, 7, 10, 2, 3, 2, 3, 7, 5, 2, 4, 6, 6, 6, 6, 0, 6, 7, 5, 3, 6, 11, 0, 0, 11, 0, 0, 0, 0, 12, 12, 12, 12, 12, 13, 13, 13, 0, 5, 3, 0, 5, 1, 2, 2, 4, 4, 0, 0, 0, 11, 0, 5, 3, 7, 0, 0, 12, 13, 12, 14, 11, 0, 1, 1, 11, 0, 1, 11, 0, 0, 11, 0, 0, 11, 0, 11, 0, 1, 11, 0, 11, 0, 1, 11, 0, 11, 0, 11, 0, 0, 11, 0, 9, 11, 0, 11, 0, 11, 0, 11, 0, 11, 0, 11, 0, 11, 0, 0, 1, 11, 0, 10, 11, 0, 11, 0, 11, 0, 11, 0, 11, 0, 11, 0, 11, 0, 0, 11, 0, 11, 0, 6, 11, 0, 11, 0, 6, 11, 0, 15, 15, 15, 15, 15, 15, 15, 15, 15, 15, 15, 15, 15, 15, 15, 15, 15, 15, 15, 15, 15, 15, 15, 15, 15, 15, 15, 15, 15, 15, 15, 15, 15, 15, 15, 15, 15, 15, 15, 15, 15, 15, 15, 15, 15, 15, 15, 15, 15, 15, 15, 15, 15, 15, 15, 15, 15, 15, 15, 15, 15, 15, 15, 15, 15, 15, 15, 15, 15, 15, 15, 15, 15, 15, 15, 15, 15, 15, 15, 15, 15, 15, 15, 15, 15, 15, 15, 15, 15, 15, 15, 15, 15, 15, 15, 15, 15, 15, 15, 15, 15, 15, 15, 15, 15, 15, 15, 15, 15, 15, 15, 11]
set_option maxRecDepth 20000 in
def bz_ys : List MethodName := [⟨"BarcodeEngine", "<init>", "()V"⟩, ⟨"BarcodeEngine$Row", "<init>", "()V"⟩, ⟨"BarcodeEngine$Ean8", "<init>", "()V"⟩, ⟨"BarcodeEngine$Symbology", "<init>", "(IIII)V"⟩, ⟨"BarcodeEngine$Interleaved", "<init>", "()V"⟩, ⟨"BarcodeEngine$Codabar", "<init>", "()V"⟩, ⟨"BarcodeEngine$Tally", "<init>", "()V"⟩, ⟨"BarcodeEngine$Sequence", "<init>", "()V"⟩, ⟨"BarcodeEngine$Scan", "<init>", "()V"⟩, ⟨"BarcodeEngine$Reading", "<init>", "()V"⟩, ⟨"BarcodeEngine", "scanCount", "()I"⟩, ⟨"BarcodeEngine", "winner", "()I"⟩, ⟨"BarcodeEngine", "tally", "(I)LBarcodeEngine$Tally;"⟩, ⟨"BarcodeEngine", "requireSymbology", "(I)V"⟩, ⟨"BarcodeEngine$Symbology", "interpret", "(LBarcodeEngine$Row;LBarcodeEngine$Row;LBarcodeEngine$Reading;)V"⟩, ⟨"BarcodeEngine$Reading", "clear", "()V"⟩, ⟨"BarcodeEngine$Symbology", "findWhole", "(LBarcodeEngine$Row;LBarcodeEngine$Reading;)Z"⟩, ⟨"BarcodeEngine$Codabar", "beginsAt", "(LBarcodeEngine$Row;I)Z"⟩, ⟨"BarcodeEngine$Row", "match", "(III[I)I"⟩, ⟨"BarcodeEngine$Row", "isQuiet", "(III)Z"⟩, ⟨"BarcodeEngine$Ean8", "beginsAt", "(LBarcodeEngine$Row;I)Z"⟩, ⟨"BarcodeEngine$Row", "isEven", "(II)Z"⟩, ⟨"BarcodeEngine$Interleaved", "beginsAt", "(LBarcodeEngine$Row;I)Z"⟩, ⟨"BarcodeEngine$Ean8", "addWhole", "(LBarcodeEngine$Row;ILBarcodeEngine$Sequence;)I"⟩, ⟨"BarcodeEngine$Ean8", "addUnit", "(LBarcodeEngine$Row;ILBarcodeEngine$Sequence;)Z"⟩, ⟨"BarcodeEngine$Row", "has", "(II)Z"⟩, ⟨"BarcodeEngine$Ean8", "digitOf", "(IIZ)I"⟩, ⟨"java/lang/Math", "abs", "(I)I"⟩, ⟨"java/lang/Math", "max", "(II)I"⟩, ⟨"BarcodeEngine$Sequence", "add", "(II)V"⟩, ⟨"BarcodeEngine$Ean8", "endsAt", "(LBarcodeEngine$Row;I)Z"⟩, ⟨"BarcodeEngine$Symbology", "addWhole", "(LBarcodeEngine$Row;ILBarcodeEngine$Sequence;)I"⟩, ⟨"BarcodeEngine$Codabar", "addGuard", "(LBarcodeEngine$Row;ILBarcodeEngine$Sequence;)V"⟩, ⟨"BarcodeEngine$Symbology", "addGuard", "(LBarcodeEngine$Row;ILBarcodeEngine$Sequence;)V"⟩, ⟨"BarcodeEngine$Codabar", "addUnit", "(LBarcodeEngine$Row;ILBarcodeEngine$Sequence;)Z"⟩, ⟨"BarcodeEngine$Interleaved", "addUnit", "(LBarcodeEngine$Row;ILBarcodeEngine$Sequence;)Z"⟩, ⟨"BarcodeEngine$Codabar", "endsAt", "(LBarcodeEngine$Row;I)Z"⟩, ⟨"BarcodeEngine$Interleaved", "endsAt", "(LBarcodeEngine$Row;I)Z"⟩, ⟨"BarcodeEngine$Row", "copyReversed", "(LBarcodeEngine$Row;)V"⟩, ⟨"BarcodeEngine$Reading", "turn", "(I)V"⟩, ⟨"BarcodeEngine$Symbology", "findParts", "(LBarcodeEngine$Row;LBarcodeEngine$Reading;)Z"⟩, ⟨"BarcodeEngine$Symbology", "addHead", "(LBarcodeEngine$Row;ILBarcodeEngine$Sequence;)V"⟩, ⟨"BarcodeEngine$Symbology", "addTail", "(LBarcodeEngine$Row;ILBarcodeEngine$Sequence;)V"⟩, ⟨"BarcodeEngine$Tally", "recount", "(LBarcodeEngine$Symbology;I[LBarcodeEngine$Scan;I)V"⟩, ⟨"BarcodeEngine$Tally", "supportedLength", "(I[LBarcodeEngine$Scan;I)I"⟩, ⟨"BarcodeEngine$Sequence", "leastConfidence", "()I"⟩, ⟨"java/lang/Math", "min", "(II)I"⟩, ⟨"BarcodeEngine$Ean8", "joinedLength", "(I[LBarcodeEngine$Scan;I)I"⟩, ⟨"BarcodeEngine$Symbology", "joinedLength", "(I[LBarcodeEngine$Scan;I)I"⟩, ⟨"BarcodeEngine$Ean8", "seam", "(LBarcodeEngine$Sequence;LBarcodeEngine$Sequence;)I"⟩, ⟨"BarcodeEngine$Symbology", "seam", "(LBarcodeEngine$Sequence;LBarcodeEngine$Sequence;)I"⟩, ⟨"BarcodeEngine$Sequence", "endsLike", "(LBarcodeEngine$Sequence;I)Z"⟩, ⟨"BarcodeEngine$Codabar", "hasLength", "(I)Z"⟩, ⟨"BarcodeEngine$Ean8", "hasLength", "(I)Z"⟩, ⟨"BarcodeEngine$Interleaved", "hasLength", "(I)Z"⟩, ⟨"BarcodeEngine$Tally", "countVotes", "(LBarcodeEngine$Reading;)V"⟩, ⟨"BarcodeEngine$Tally", "addVotes", "(LBarcodeEngine$Sequence;I)V"⟩, ⟨"BarcodeEngine$Tally", "majorityAt", "(I)I"⟩, ⟨"BarcodeEngine$Tally", "weightOf", "(II)I"⟩, ⟨"BarcodeEngine", "problemOf", "(LBarcodeEngine$Tally;I)I"⟩, ⟨"BarcodeEngine$Tally", "doubts", "()I"⟩, ⟨"BarcodeEngine$Sequence", "copyValues", "([II)V"⟩, ⟨"BarcodeEngine$Codabar", "isRight", "(LBarcodeEngine$Sequence;)Z"⟩, ⟨"BarcodeEngine$Symbology", "isRight", "(LBarcodeEngine$Sequence;)Z"⟩, ⟨"BarcodeEngine$Tally", "share", "()I"⟩, ⟨"BarcodeEngineLaw", "append", "(LBarcodeEngine;IIIII[J)I"⟩, ⟨"BarcodeEngine", "append", "(IIIII)I"⟩, ⟨"BarcodeEngine", "appendBytes", "(I)V"⟩, ⟨"BarcodeEngineLaw", "print", "(LBarcodeEngine;IIIII[J)I"⟩, ⟨"BarcodeEngine", "print", "(IIIII)I"⟩, ⟨"BarcodeEngine", "requireTextLength", "(I)V"⟩, ⟨"BarcodeEngine", "takeText", "(I)V"⟩, ⟨"BarcodeEngine", "valueOf", "(I)I"⟩, ⟨"java/lang/String", "indexOf", "(I)I"⟩, ⟨"java/lang/String", "indexOf", "(II)I"⟩, ⟨"java/lang/String", "isLatin1", "()Z"⟩, ⟨"java/lang/String", "length", "()I"⟩, ⟨"java/lang/String", "coder", "()B"⟩, ⟨"java/lang/StringLatin1", "indexOf", "([BIII)I"⟩, ⟨"java/lang/StringLatin1", "canEncode", "(I)Z"⟩, ⟨"java/lang/StringLatin1", "indexOfChar", "([BIII)I"⟩, ⟨"BarcodeEngine", "isCode", "(LBarcodeEngine$Symbology;)Z"⟩, ⟨"BarcodeEngine$Codabar", "allows", "(III)Z"⟩, ⟨"BarcodeEngine$Symbology", "allows", "(III)Z"⟩, ⟨"BarcodeEngine", "requireRoomForScan", "()V"⟩, ⟨"BarcodeEngine$Codabar", "draw", "(LBarcodeEngine$Sequence;LBarcodeEngine$Row;)V"⟩, ⟨"BarcodeEngine$Row", "add", "(I)V"⟩, ⟨"BarcodeEngine$Ean8", "draw", "(LBarcodeEngine$Sequence;LBarcodeEngine$Row;)V"⟩, ⟨"BarcodeEngine$Ean8", "addOnes", "(LBarcodeEngine$Row;I)V"⟩, ⟨"BarcodeEngine$Interleaved", "draw", "(LBarcodeEngine$Sequence;LBarcodeEngine$Row;)V"⟩, ⟨"BarcodeEngine$Interleaved", "patternOf", "(I)I"⟩, ⟨"BarcodeEngine", "addPrinted", "(LBarcodeEngine$Row;III)V"⟩, ⟨"BarcodeEngine", "keepScan", "(LBarcodeEngine$Scan;)I"⟩, ⟨"BarcodeEngine", "forget", "(LBarcodeEngine$Scan;)V"⟩, ⟨"BarcodeEngineLaw", "checkCharacter", "(LBarcodeEngine;II[J)I"⟩, ⟨"BarcodeEngine", "checkCharacter", "(II)I"⟩, ⟨"BarcodeEngine$Codabar", "checkPlace", "(I)I"⟩, ⟨"BarcodeEngine$Symbology", "checkPlace", "(I)I"⟩, ⟨"BarcodeEngine$Sequence", "insert", "(II)V"⟩, ⟨"BarcodeEngine", "rightValue", "(LBarcodeEngine$Symbology;I)I"⟩, ⟨"BarcodeEngine", "characterOf", "(I)I"⟩, ⟨"java/lang/String", "charAt", "(I)C"⟩, ⟨"java/lang/StringLatin1", "charAt", "([BI)C"⟩, ⟨"java/lang/String", "checkIndex", "(II)V"⟩, ⟨"jdk/internal/util/Preconditions", "checkIndex", "(IILjava/util/function/BiFunction;)I"⟩, ⟨"BarcodeEngineLaw", "addWidths", "(LBarcodeEngine;IIIIII[J)I"⟩, ⟨"BarcodeEngine", "addWidths", "(IIIIII)I"⟩, ⟨"BarcodeEngine$Row", "isWithin", "(II)Z"⟩, ⟨"BarcodeEngine$Row", "countBeforeZero", "()I"⟩, ⟨"BarcodeEngineLaw", "endScan", "(LBarcodeEngine;[J)I"⟩, ⟨"BarcodeEngine", "endScan", "()I"⟩, ⟨"BarcodeEngine$Row", "copy", "(LBarcodeEngine$Row;)V"⟩, ⟨"BarcodeEngineLaw", "widthCount", "(LBarcodeEngine;I[J)I"⟩, ⟨"BarcodeEngine", "widthCount", "(I)I"⟩, ⟨"BarcodeEngine", "requireScan", "(I)V"⟩, ⟨"BarcodeEngineLaw", "width", "(LBarcodeEngine;II[J)I"⟩, ⟨"BarcodeEngine", "width", "(II)I"⟩, ⟨"BarcodeEngine", "requirePlace", "(II)V"⟩, ⟨"BarcodeEngineLaw", "setWidth", "(LBarcodeEngine;III[J)I"⟩, ⟨"BarcodeEngine", "setWidth", "(III)I"⟩, ⟨"BarcodeEngineLaw", "cut", "(LBarcodeEngine;III[J)I"⟩, ⟨"BarcodeEngine", "cut", "(III)I"⟩, ⟨"BarcodeEngine$Row", "keep", "(II)V"⟩, ⟨"BarcodeEngineLaw", "reverse", "(LBarcodeEngine;I)I"⟩, ⟨"BarcodeEngine", "reverse", "(I)V"⟩, ⟨"BarcodeEngineLaw", "smear", "(LBarcodeEngine;II[J)I"⟩, ⟨"BarcodeEngine", "smear", "(II)I"⟩, ⟨"BarcodeEngine$Row", "widenBars", "(I)I"⟩, ⟨"BarcodeEngineLaw", "average", "(LBarcodeEngine;II)I"⟩, ⟨"BarcodeEngine", "average", "(II)V"⟩, ⟨"BarcodeEngineLaw", "removeScan", "(LBarcodeEngine;I[J)I"⟩, ⟨"BarcodeEngine", "removeScan", "(I)I"⟩, ⟨"BarcodeEngineLaw", "read", "(LBarcodeEngine;II[J)I"⟩, ⟨"BarcodeEngine", "read", "(II)I"⟩, ⟨"BarcodeEngine", "reading", "(II)LBarcodeEngine$Reading;"⟩, ⟨"BarcodeEngineLaw", "readPart", "(LBarcodeEngine;IIZ[J)I"⟩, ⟨"BarcodeEngine", "readPart", "(IIZ)I"⟩, ⟨"BarcodeEngine$Reading", "part", "(Z)LBarcodeEngine$Sequence;"⟩, ⟨"BarcodeEngineLaw", "character", "(LBarcodeEngine;III[J)I"⟩, ⟨"BarcodeEngine", "character", "(III)I"⟩, ⟨"BarcodeEngineLaw", "confidence", "(LBarcodeEngine;III[J)I"⟩, ⟨"BarcodeEngine", "confidence", "(III)I"⟩, ⟨"BarcodeEngineLaw", "partCharacter", "(LBarcodeEngine;IIZI[J)I"⟩, ⟨"BarcodeEngine", "partCharacter", "(IIZI)I"⟩, ⟨"BarcodeEngineLaw", "isReversed", "(LBarcodeEngine;II[J)I"⟩, ⟨"BarcodeEngine", "isReversed", "(II)Z"⟩, ⟨"BarcodeEngineLaw", "agreement", "(LBarcodeEngine;III[J)I"⟩, ⟨"BarcodeEngine", "agreement", "(III)I"⟩, ⟨"BarcodeEngineLaw", "overlap", "(LBarcodeEngine;III[J)I"⟩, ⟨"BarcodeEngine", "overlap", "(III)I"⟩, ⟨"BarcodeEngineLaw", "module", "(LBarcodeEngine;II[J)I"⟩, ⟨"BarcodeEngine", "module", "(II)I"⟩, ⟨"BarcodeEngine", "drawWhole", "(LBarcodeEngine$Symbology;LBarcodeEngine$Reading;)V"⟩, ⟨"BarcodeEngine$Row", "sum", "(III)J"⟩, ⟨"BarcodeEngineLaw", "spread", "(LBarcodeEngine;II[J)I"⟩, ⟨"BarcodeEngine", "spread", "(II)I"⟩, ⟨"java/lang/Math", "floorDiv", "(JJ)J"⟩, ⟨"BarcodeEngineLaw", "mergedLength", "(LBarcodeEngine;III[J)I"⟩, ⟨"BarcodeEngine", "mergedLength", "(III)I"⟩, ⟨"BarcodeEngineLaw", "mergedCharacter", "(LBarcodeEngine;IIII[J)I"⟩, ⟨"BarcodeEngine", "mergedCharacter", "(IIII)I"⟩, ⟨"BarcodeEngineLaw", "bestScan", "(LBarcodeEngine;I[J)I"⟩, ⟨"BarcodeEngine", "bestScan", "(I)I"⟩, ⟨"BarcodeEngineLaw", "length", "(LBarcodeEngine;I[J)I"⟩, ⟨"BarcodeEngine", "length", "(I)I"⟩, ⟨"BarcodeEngineLaw", "weight", "(LBarcodeEngine;III[J)I"⟩, ⟨"BarcodeEngine", "weight", "(III)I"⟩, ⟨"BarcodeEngineLaw", "voted", "(LBarcodeEngine;II[J)I"⟩, ⟨"BarcodeEngine", "voted", "(II)I"⟩, ⟨"BarcodeEngineLaw", "runnerUp", "(LBarcodeEngine;II[J)I"⟩, ⟨"BarcodeEngine", "runnerUp", "(II)I"⟩, ⟨"BarcodeEngine", "strongest", "(LBarcodeEngine$Tally;II)I"⟩, ⟨"BarcodeEngineLaw", "problem", "(LBarcodeEngine;I[J)I"⟩, ⟨"BarcodeEngine", "problem", "(I)I"⟩, ⟨"BarcodeEngineLaw", "doubtful", "(LBarcodeEngine;I[J)I"⟩, ⟨"BarcodeEngine", "doubtful", "(I)I"⟩, ⟨"BarcodeEngine$Tally", "firstDoubt", "()I"⟩, ⟨"BarcodeEngineLaw", "repaired", "(LBarcodeEngine;I[J)I"⟩, ⟨"BarcodeEngine", "repaired", "(I)I"⟩, ⟨"BarcodeEngineLaw", "worstScan", "(LBarcodeEngine;I[J)I"⟩, ⟨"BarcodeEngine", "worstScan", "(I)I"⟩, ⟨"BarcodeEngine$Tally", "disagreements", "(LBarcodeEngine$Sequence;)I"⟩, ⟨"BarcodeEngineLaw", "setCheck", "(LBarcodeEngine;IZ[J)I"⟩, ⟨"BarcodeEngine", "setCheck", "(IZ)Z"⟩, ⟨"BarcodeEngineModel", "<init>", "()V"⟩, ⟨"BarcodeEngineModel", "thrown", "()I"⟩, ⟨"BarcodeEngineModel", "append", "(IIIII)I"⟩, ⟨"BarcodeEngineModel", "print", "(IIIII)I"⟩, ⟨"BarcodeEngineModel", "isSymbology", "(I)Z"⟩, ⟨"BarcodeEngineModel", "isIn", "(JJJ)Z"⟩, ⟨"BarcodeEngineModel", "canPrint", "(IIII)Z"⟩, ⟨"BarcodeEngineModel", "isLength", "(II)Z"⟩, ⟨"BarcodeEngineModel", "areCharacters", "(II)Z"⟩, ⟨"BarcodeEngineModel", "isLetter", "(I)Z"⟩, ⟨"BarcodeEngineModel", "valueOf", "(I)I"⟩, ⟨"BarcodeEngineModel", "laysModules", "(II)V"⟩, ⟨"BarcodeEngineModel", "laysEan", "()V"⟩, ⟨"BarcodeEngineModel", "laysOnes", "(I)V"⟩, ⟨"BarcodeEngineModel", "lays", "(I)V"⟩, ⟨"BarcodeEngineModel", "laysPairs", "(I)V"⟩, ⟨"BarcodeEngineModel", "wideOr", "(II)I"⟩, ⟨"BarcodeEngineModel", "laysCodabar", "(I)V"⟩, ⟨"BarcodeEngineModel", "checkCharacter", "(II)I"⟩, ⟨"BarcodeEngineModel", "addWidths", "(IIIIII)I"⟩, ⟨"BarcodeEngineModel", "isWidth", "(II)Z"⟩, ⟨"BarcodeEngineModel", "endScan", "()I"⟩, ⟨"BarcodeEngineModel", "scanCount", "()I"⟩, ⟨"BarcodeEngineModel", "widthCount", "(I)I"⟩, ⟨"BarcodeEngineModel", "isScan", "(I)Z"⟩, ⟨"BarcodeEngineModel", "width", "(II)I"⟩, ⟨"BarcodeEngineModel", "hasWidth", "(II)Z"⟩, ⟨"BarcodeEngineModel", "setWidth", "(III)I"⟩, ⟨"BarcodeEngineModel", "cut", "(III)I"⟩, ⟨"BarcodeEngineModel", "reverse", "(I)V"⟩, ⟨"BarcodeEngineModel", "laysRow", "(IZ)V"⟩, ⟨"BarcodeEngineModel", "smear", "(II)I"⟩, ⟨"BarcodeEngineModel", "average", "(II)V"⟩, ⟨"BarcodeEngineModel", "removeScan", "(I)I"⟩, ⟨"BarcodeEngineModel", "read", "(II)I"⟩, ⟨"BarcodeEngineModel", "reads", "(II)Z"⟩, ⟨"BarcodeEngineModel", "readsScan", "(II)V"⟩, ⟨"BarcodeEngineModel", "isWhole", "(II)Z"⟩, ⟨"BarcodeEngineModel", "isWholeFrom", "(II)Z"⟩, ⟨"BarcodeEngineModel", "isBeginning", "(II)Z"⟩, ⟨"BarcodeEngineModel", "startOf", "(I)I"⟩, ⟨"BarcodeEngineModel", "exists", "(II)Z"⟩, ⟨"BarcodeEngineModel", "sevenAt", "(I)I"⟩, ⟨"BarcodeEngineModel", "readsWides", "(III)Z"⟩, ⟨"BarcodeEngineModel", "areEven", "(II)Z"⟩, ⟨"BarcodeEngineModel", "leastOf", "(II)I"⟩, ⟨"BarcodeEngineModel", "isWholeEan", "(I)Z"⟩, ⟨"BarcodeEngineModel", "readsDigits", "(I)Z"⟩, ⟨"BarcodeEngineModel", "readsDigit", "(I)Z"⟩, ⟨"BarcodeEngineModel", "rounded", "(II)I"⟩, ⟨"BarcodeEngineModel", "digitBy", "(IIZ)I"⟩, ⟨"BarcodeEngineModel", "apart", "(II)I"⟩, ⟨"BarcodeEngineModel", "signsOne", "(II)V"⟩, ⟨"BarcodeEngineModel", "isEnd", "(II)Z"⟩, ⟨"BarcodeEngineModel", "stopOf", "(I)I"⟩, ⟨"BarcodeEngineModel", "isWholePairs", "(I)Z"⟩, ⟨"BarcodeEngineModel", "readsPair", "(I)Z"⟩, ⟨"BarcodeEngineModel", "readsFive", "(I)Z"⟩, ⟨"BarcodeEngineModel", "isWholeCodabar", "(I)Z"⟩, ⟨"BarcodeEngineModel", "readsSeven", "(IZ)Z"⟩, ⟨"BarcodeEngineModel", "keeps", "(II)V"⟩, ⟨"BarcodeEngineModel", "hasParts", "(II)Z"⟩, ⟨"BarcodeEngineModel", "readsHead", "(II)V"⟩, ⟨"BarcodeEngineModel", "readsTail", "(II)V"⟩, ⟨"BarcodeEngineModel", "partsTo", "(II)I"⟩, ⟨"BarcodeEngineModel", "manyOf", "(II)I"⟩, ⟨"BarcodeEngineModel", "readPart", "(IIZ)I"⟩, ⟨"BarcodeEngineModel", "character", "(III)I"⟩, ⟨"BarcodeEngineModel", "has", "(IIII)Z"⟩, ⟨"BarcodeEngineModel", "signOf", "(III)I"⟩, ⟨"BarcodeEngineModel", "confidence", "(III)I"⟩, ⟨"BarcodeEngineModel", "weightOf", "(III)I"⟩, ⟨"BarcodeEngineModel", "partCharacter", "(IIZI)I"⟩, ⟨"BarcodeEngineModel", "isReversed", "(II)Z"⟩, ⟨"BarcodeEngineModel", "module", "(II)I"⟩, ⟨"BarcodeEngineModel", "measures", "(II)Z"⟩, ⟨"BarcodeEngineModel", "spread", "(II)I"⟩, ⟨"BarcodeEngineModel", "agreement", "(III)I"⟩, ⟨"BarcodeEngineModel", "readsAll", "(I)V"⟩, ⟨"BarcodeEngineModel", "overlap", "(III)I"⟩, ⟨"BarcodeEngineModel", "mostOverlap", "(II)I"⟩, ⟨"BarcodeEngineModel", "overlaps", "(III)Z"⟩, ⟨"BarcodeEngineModel", "mergedLength", "(III)I"⟩, ⟨"BarcodeEngineModel", "mergesNow", "(III)I"⟩, ⟨"BarcodeEngineModel", "merges", "(III)I"⟩, ⟨"BarcodeEngineModel", "mergedCharacter", "(IIII)I"⟩, ⟨"BarcodeEngineModel", "bestScan", "(I)I"⟩, ⟨"BarcodeEngineModel", "leastWeight", "(I)I"⟩, ⟨"BarcodeEngineModel", "length", "(I)I"⟩, ⟨"BarcodeEngineModel", "lengthOf", "(I)I"⟩, ⟨"BarcodeEngineModel", "wholeLength", "()I"⟩, ⟨"BarcodeEngineModel", "hasAny", "(I)Z"⟩, ⟨"BarcodeEngineModel", "longestMerge", "(I)I"⟩, ⟨"BarcodeEngineModel", "weight", "(III)I"⟩, ⟨"BarcodeEngineModel", "hasPlace", "(II)Z"⟩, ⟨"BarcodeEngineModel", "laysVotes", "(I)I"⟩, ⟨"BarcodeEngineModel", "adds", "(III)V"⟩, ⟨"BarcodeEngineModel", "allAt", "(I)I"⟩, ⟨"BarcodeEngineModel", "voted", "(II)I"⟩, ⟨"BarcodeEngineModel", "votedAt", "(I)I"⟩, ⟨"BarcodeEngineModel", "runnerUp", "(II)I"⟩, ⟨"BarcodeEngineModel", "problem", "(I)I"⟩, ⟨"BarcodeEngineModel", "problemOf", "(I)I"⟩, ⟨"BarcodeEngineModel", "doubtFrom", "(II)I"⟩, ⟨"BarcodeEngineModel", "isRight", "(IIII)Z"⟩, ⟨"BarcodeEngineModel", "doubtful", "(I)I"⟩, ⟨"BarcodeEngineModel", "repaired", "(I)I"⟩, ⟨"BarcodeEngineModel", "winner", "()I"⟩, ⟨"BarcodeEngineModel", "shareOf", "(I)I"⟩, ⟨"BarcodeEngineModel", "worstScan", "(I)I"⟩, ⟨"BarcodeEngineModel", "setCheck", "(IZ)Z"⟩, ⟨"BarcodeEngineLaw", "law", "([I)Z"⟩]
set_option maxRecDepth 20000 in
def bz_bs : List ByteArray := [prog_1_method_1_code, prog_6_method_1_code, prog_3_method_1_code, prog_9_method_1_code, prog_4_method_1_code, prog_2_method_1_code, prog_10_method_1_code, prog_8_method_1_code, prog_7_method_1_code, prog_5_method_1_code, prog_1_method_7_code, prog_1_method_36_code, prog_1_method_55_code, prog_1_method_40_code, prog_9_method_13_code, prog_5_method_3_code, prog_9_method_14_code, prog_2_method_7_code, prog_6_method_13_code, prog_6_method_12_code, prog_3_method_5_code, prog_6_method_11_code, prog_4_method_5_code, prog_3_method_7_code, prog_3_method_8_code, prog_6_method_10_code, prog_3_method_9_code, prog_21_method_59_code, prog_21_method_65_code, prog_8_method_2_code, prog_3_method_6_code, prog_9_method_15_code, prog_2_method_9_code, prog_9_method_7_code, prog_2_method_10_code, prog_4_method_7_code, prog_2_method_8_code, prog_4_method_6_code, prog_6_method_4_code, prog_5_method_4_code, prog_9_method_16_code, prog_9_method_17_code, prog_9_method_18_code, prog_10_method_3_code, prog_10_method_4_code, prog_8_method_5_code, prog_21_method_69_code, prog_3_method_11_code, prog_9_method_12_code, prog_3_method_10_code, prog_9_method_11_code, prog_8_method_6_code, prog_2_method_2_code, prog_3_method_2_code, prog_4_method_2_code, prog_10_method_5_code, prog_10_method_6_code, prog_10_method_7_code, prog_10_method_2_code, prog_1_method_56_code, prog_10_method_9_code, prog_8_method_4_code, prog_2_method_5_code, prog_9_method_10_code, prog_10_method_10_code, method_3_code, prog_1_method_2_code, prog_1_method_44_code, method_4_code, prog_1_method_3_code, prog_1_method_42_code, prog_1_method_47_code, prog_1_method_45_code, prog_23_method_79_code, prog_23_method_80_code, prog_23_method_154_code, prog_23_method_54_code, prog_23_method_152_code, prog_24_method_22_code, prog_24_method_4_code, prog_24_method_23_code, prog_1_method_48_code, prog_2_method_3_code, prog_9_method_8_code, prog_1_method_43_code, prog_2_method_6_code, prog_6_method_2_code, prog_3_method_3_code, prog_3_method_4_code, prog_4_method_3_code, prog_4_method_4_code, prog_1_method_50_code, prog_1_method_52_code, prog_1_method_53_code, method_5_code, prog_1_method_4_code, prog_2_method_4_code, prog_9_method_9_code, prog_8_method_3_code, prog_1_method_49_code, prog_1_method_46_code, prog_23_method_56_code, prog_24_method_2_code, prog_23_method_155_code, prog_30_method_11_code, method_6_code, prog_1_method_5_code, prog_6_method_6_code, prog_6_method_7_code, method_7_code, prog_1_method_6_code, prog_6_method_3_code, method_8_code, prog_1_method_8_code, prog_1_method_39_code, method_9_code, prog_1_method_9_code, prog_1_method_41_code, method_10_code, prog_1_method_10_code, method_11_code, prog_1_method_11_code, prog_6_method_5_code, method_12_code, prog_1_method_12_code, method_13_code, prog_1_method_13_code, prog_6_method_8_code, method_14_code, prog_1_method_14_code, method_15_code, prog_1_method_15_code, method_16_code, prog_1_method_16_code, prog_1_method_54_code, method_17_code, prog_1_method_17_code, prog_5_method_2_code, method_18_code, prog_1_method_18_code, method_19_code, prog_1_method_19_code, method_20_code, prog_1_method_20_code, method_21_code, prog_1_method_21_code, method_22_code, prog_1_method_22_code, method_23_code, prog_1_method_23_code, method_24_code, prog_1_method_24_code, prog_1_method_51_code, prog_6_method_9_code, method_25_code, prog_1_method_25_code, prog_21_method_49_code, method_26_code, prog_1_method_26_code, method_27_code, prog_1_method_27_code, method_28_code, prog_1_method_28_code, method_29_code, prog_1_method_29_code, method_30_code, prog_1_method_30_code, method_31_code, prog_1_method_31_code, method_32_code, prog_1_method_32_code, prog_1_method_57_code, method_33_code, prog_1_method_33_code, method_34_code, prog_1_method_34_code, prog_10_method_8_code, method_35_code, prog_1_method_35_code, method_36_code, prog_1_method_37_code, prog_10_method_11_code, method_37_code, prog_1_method_38_code, prog_12_method_1_code, prog_12_method_2_code, prog_12_method_4_code, prog_12_method_18_code, prog_12_method_5_code, prog_12_method_3_code, prog_12_method_17_code, prog_12_method_9_code, prog_12_method_8_code, prog_12_method_7_code, prog_12_method_6_code, prog_12_method_16_code, prog_12_method_12_code, prog_12_method_11_code, prog_12_method_10_code, prog_12_method_14_code, prog_12_method_13_code, prog_12_method_15_code, prog_12_method_19_code, prog_12_method_21_code, prog_12_method_20_code, prog_12_method_22_code, prog_12_method_23_code, prog_12_method_26_code, prog_12_method_24_code, prog_12_method_27_code, prog_12_method_25_code, prog_12_method_28_code, prog_12_method_29_code, prog_12_method_30_code, prog_12_method_34_code, prog_12_method_31_code, prog_12_method_32_code, prog_12_method_33_code, prog_12_method_69_code, prog_12_method_68_code, prog_12_method_63_code, prog_12_method_61_code, prog_12_method_56_code, prog_12_method_50_code, prog_12_method_48_code, prog_12_method_35_code, prog_12_method_46_code, prog_12_method_43_code, prog_12_method_37_code, prog_12_method_36_code, prog_12_method_53_code, prog_12_method_52_code, prog_12_method_42_code, prog_12_method_39_code, prog_12_method_41_code, prog_12_method_40_code, prog_12_method_38_code, prog_12_method_51_code, prog_12_method_49_code, prog_12_method_54_code, prog_12_method_45_code, prog_12_method_44_code, prog_12_method_55_code, prog_12_method_47_code, prog_12_method_60_code, prog_12_method_62_code, prog_12_method_57_code, prog_12_method_59_code, prog_12_method_58_code, prog_12_method_65_code, prog_12_method_70_code, prog_12_method_72_code, prog_12_method_71_code, prog_12_method_66_code, prog_12_method_73_code, prog_12_method_67_code, prog_12_method_74_code, prog_12_method_75_code, prog_12_method_77_code, prog_12_method_76_code, prog_12_method_78_code, prog_12_method_79_code, prog_12_method_64_code, prog_12_method_82_code, prog_12_method_81_code, prog_12_method_80_code, prog_12_method_85_code, prog_12_method_84_code, prog_12_method_83_code, prog_12_method_86_code, prog_12_method_87_code, prog_12_method_88_code, prog_12_method_97_code, prog_12_method_92_code, prog_12_method_89_code, prog_12_method_90_code, prog_12_method_91_code, prog_12_method_99_code, prog_12_method_98_code, prog_12_method_94_code, prog_12_method_93_code, prog_12_method_95_code, prog_12_method_100_code, prog_12_method_96_code, prog_12_method_101_code, prog_12_method_105_code, prog_12_method_104_code, prog_12_method_102_code, prog_12_method_103_code, prog_12_method_106_code, prog_12_method_107_code, prog_12_method_109_code, prog_12_method_108_code, prog_12_method_110_code, prog_12_method_111_code, code]
set_option maxRecDepth 20000 in
def bz_rts : List (Option FieldType) := [none, none, none, none, none, none, none, none, none, none, (some .int), (some .int), (some (.object "BarcodeEngine$Tally")), none, none, none, (some .boolean), (some .boolean), (some .int), (some .boolean), (some .boolean), (some .boolean), (some .boolean), (some .int), (some .boolean), (some .boolean), (some .int), (some .int), (some .int), none, (some .boolean), (some .int), none, none, (some .boolean), (some .boolean), (some .boolean), (some .boolean), none, none, (some .boolean), none, none, none, (some .int), (some .int), (some .int), (some .int), (some .int), (some .int), (some .int), (some .boolean), (some .boolean), (some .boolean), (some .boolean), none, none, (some .int), (some .int), (some .int), (some .int), none, (some .boolean), (some .boolean), (some .int), (some .int), (some .int), none, (some .int), (some .int), none, none, (some .int), (some .int), (some .int), (some .boolean), (some .int), (some .byte), (some .int), (some .boolean), (some .int), (some .boolean), (some .boolean), (some .boolean), none, none, none, none, none, none, (some .int), none, (some .int), none, (some .int), (some .int), (some .int), (some .int), none, (some .int), (some .int), (some .char), (some .char), none, (some .int), (some .int), (some .int), (some .boolean), (some .int), (some .int), (some .int), none, (some .int), (some .int), none, (some .int), (some .int), none, (some .int), (some .int), (some .int), (some .int), none, (some .int), none, (some .int), (some .int), (some .int), (some .int), none, (some .int), (some .int), (some .int), (some .int), (some (.object "BarcodeEngine$Reading")), (some .int), (some .int), (some (.object "BarcodeEngine$Sequence")), (some .int), (some .int), (some .int), (some .int), (some .int), (some .int), (some .int), (some .boolean), (some .int), (some .int), (some .int), (some .int), (some .int), (some .int), none, (some .long), (some .int), (some .int), (some .long), (some .int), (some .int), (some .int), (some .int), (some .int), (some .int), (some .int), (some .int), (some .int), (some .int), (some .int), (some .int), (some .int), (some .int), (some .int), (some .int), (some .int), (some .int), (some .int), (some .int), (some .int), (some .int), (some .int), (some .int), (some .int), (some .int), (some .boolean), none, (some .int), (some .int), (some .int), (some .boolean), (some .boolean), (some .boolean), (some .boolean), (some .boolean), (some .boolean), (some .int), none, none, none, none, none, (some .int), none, (some .int), (some .int), (some .boolean), (some .int), (some .int), (some .int), (some .boolean), (some .int), (some .boolean), (some .int), (some .int), none, none, (some .int), none, (some .int), (some .int), (some .boolean), none, (some .boolean), (some .boolean), (some .boolean), (some .int), (some .boolean), (some .int), (some .boolean), (some .boolean), (some .int), (some .boolean), (some .boolean), (some .boolean), (some .int), (some .int), (some .int), none, (some .boolean), (some .int), (some .boolean), (some .boolean), (some .boolean), (some .boolean), (some .boolean), none, (some .boolean), none, none, (some .int), (some .int), (some .int), (some .int), (some .boolean), (some .int), (some .int), (some .int), (some .int), (some .boolean), (some .int), (some .boolean), (some .int), (some .int), none, (some .int), (some .int), (some .boolean), (some .int), (some .int), (some .int), (some .int), (some .int), (some .int), (some .int), (some .int), (some .int), (some .boolean), (some .int), (some .int), (some .boolean), (some .int), none, (some .int), (some .int), (some .int), (some .int), (some .int), (some .int), (some .int), (some .boolean), (some .int), (some .int), (some .int), (some .int), (some .int), (some .boolean), (some .boolean)]
set_option maxRecDepth 20000 in
def bz_hhs : List (List (Nat × Nat × Nat × Nat)) := [[], [], [], [], [], [], [], [], [], [], [], [], [], [], [], [], [], [], [], [], [], [], [], [], [], [], [], [], [], [], [], [], [], [], [], [], [], [], [], [], [], [], [], [], [], [], [], [], [], [], [], [], [], [], [], [], [], [], [], [], [], [], [], [], [], [(0, 16, 19, 13)], [], [], [(0, 16, 19, 18), (0, 16, 23, 20), (0, 16, 27, 13)], [], [], [], [], [], [], [], [], [], [], [], [], [], [], [], [], [], [], [], [], [], [], [], [], [], [(0, 10, 13, 18), (0, 10, 17, 20)], [], [], [], [], [], [], [], [], [], [], [(0, 18, 21, 20), (0, 18, 25, 13)], [], [], [], [(0, 8, 11, 13)], [], [], [(0, 9, 12, 18)], [], [], [(0, 10, 13, 18)], [], [], [(0, 12, 15, 18), (0, 12, 19, 20)], [], [(0, 12, 15, 18), (0, 12, 19, 20)], [], [], [(0, 5, 8, 18)], [], [(0, 10, 13, 18), (0, 10, 17, 20)], [], [], [(0, 6, 9, 18), (0, 6, 12, 20)], [], [(0, 9, 12, 18)], [], [(0, 10, 13, 18)], [], [], [(0, 12, 15, 18)], [], [], [(0, 12, 15, 18)], [], [(0, 12, 15, 18)], [], [(0, 14, 17, 18)], [], [(0, 17, 20, 18)], [], [(0, 12, 15, 18)], [], [(0, 12, 15, 18)], [], [(0, 10, 13, 18), (0, 10, 17, 92)], [], [], [], [(0, 10, 13, 18), (0, 10, 17, 92)], [], [], [(0, 12, 15, 18)], [], [(0, 14, 17, 18)], [], [(0, 9, 12, 18), (0, 9, 15, 92)], [], [(0, 9, 12, 18)], [], [(0, 12, 15, 18)], [], [(0, 10, 13, 18)], [], [(0, 10, 13, 18)], [], [], [(0, 9, 12, 18)], [], [(0, 9, 12, 18)], [], [], [(0, 9, 12, 18), (0, 9, 15, 13), (0, 9, 18, 92)], [], [(0, 9, 12, 18), (0, 9, 15, 92)], [], [], [(0, 17, 20, 18)], [], [], [], [], [], [], [], [], [], [], [], [], [], [], [], [], [], [], [], [], [], [], [], [], [], [], [], [], [], [], [], [], [], [], [], [], [], [], [], [], [], [], [], [], [], [], [], [], [], [], [], [], [], [], [], [], [], [], [], [], [], [], [], [], [], [], [], [], [], [], [], [], [], [], [], [], [], [], [], [], [], [], [], [], [], [], [], [], [], [], [], [], [], [], [], [], [], [], [], [], [], [], [], [], [], [], [], [], [], [], [], [], []]
set_option maxRecDepth 20000 in
def bz_frs : List Nat := [4, 1, 2, 1, 2, 2, 1, 1, 3, 2, 0, 8, 7, 6, 4, 0, 3, 1, 0, 0, 1, 0, 1, 2, 1, 0, 0, 0, 0, 0, 1, 2, 1, 0, 1, 1, 1, 1, 0, 0, 3, 2, 2, 3, 2, 1, 0, 0, 2, 0, 1, 0, 0, 0, 0, 1, 0, 1, 0, 2, 0, 1, 0, 0, 1, 7, 6, 0, 8, 7, 6, 5, 4, 3, 2, 0, 1, 0, 1, 0, 0, 1, 0, 0, 6, 1, 0, 2, 1, 1, 0, 1, 1, 0, 8, 7, 0, 0, 0, 1, 4, 3, 2, 1, 0, 7, 6, 0, 0, 8, 7, 0, 8, 7, 6, 8, 7, 6, 8, 7, 8, 7, 0, 8, 7, 8, 7, 1, 8, 7, 8, 7, 9, 8, 7, 9, 8, 0, 9, 8, 9, 8, 9, 8, 9, 8, 9, 8, 9, 8, 9, 8, 6, 0, 9, 8, 0, 9, 8, 9, 8, 9, 8, 9, 8, 9, 8, 9, 8, 9, 8, 5, 9, 8, 9, 8, 0, 9, 8, 9, 8, 0, 8, 7, 1, 0, 0, 7, 1, 0, 6, 1, 5, 1, 4, 6, 2, 1, 0, 2, 0, 5, 6, 2, 1, 0, 0, 2, 1, 3, 2, 3, 3, 2, 0, 2, 2, 2, 10, 9, 8, 7, 6, 2, 0, 0, 1, 0, 1, 0, 3, 2, 1, 0, 0, 0, 0, 2, 0, 3, 2, 1, 5, 4, 0, 7, 5, 6, 5, 0, 10, 11, 10, 0, 11, 0, 11, 10, 11, 10, 11, 10, 9, 10, 1, 1, 11, 10, 2, 11, 10, 1, 11, 10, 2, 1, 2, 13, 12, 11, 1, 0, 13, 1, 13, 13, 12, 2, 5, 12, 12, 13, 12, 12, 2, 17]
set_option maxRecDepth 20000 in
def bz_los : List Nat := [80, 20, 44, 20, 44, 44, 20, 20, 60, 40, 0, 156, 132, 90, 109, 0, 83, 32, 0, 0, 25, 0, 25, 53, 22, 0, 0, 0, 0, 0, 25, 58, 32, 0, 32, 32, 32, 25, 0, 0, 84, 58, 58, 76, 43, 21, 0, 0, 46, 0, 23, 0, 0, 0, 0, 25, 0, 24, 0, 45, 0, 22, 0, 0, 24, 115, 90, 0, 160, 133, 90, 111, 91, 70, 48, 0, 20, 0, 25, 0, 0, 25, 0, 0, 90, 21, 0, 43, 21, 21, 0, 21, 22, 0, 157, 133, 0, 0, 0, 25, 85, 64, 43, 22, 0, 118, 90, 0, 0, 131, 110, 0, 132, 111, 90, 134, 111, 90, 136, 111, 135, 111, 0, 133, 111, 134, 111, 21, 136, 111, 134, 111, 177, 155, 132, 178, 155, 0, 179, 155, 179, 155, 180, 155, 177, 155, 182, 155, 182, 155, 182, 155, 90, 0, 189, 155, 0, 181, 155, 182, 155, 180, 155, 177, 156, 181, 156, 179, 156, 180, 156, 105, 177, 156, 177, 156, 0, 179, 156, 182, 156, 0, 133, 110, 20, 0, 0, 155, 25, 0, 131, 25, 106, 25, 85, 129, 43, 21, 0, 43, 0, 106, 131, 46, 25, 0, 0, 46, 25, 68, 46, 68, 68, 46, 0, 46, 46, 46, 225, 203, 180, 152, 130, 52, 0, 0, 30, 0, 24, 0, 77, 51, 22, 0, 0, 0, 0, 52, 0, 77, 52, 30, 108, 85, 0, 157, 108, 132, 108, 0, 225, 249, 225, 0, 249, 0, 249, 225, 250, 225, 250, 225, 203, 225, 22, 23, 248, 225, 48, 248, 225, 23, 247, 225, 46, 22, 48, 292, 270, 247, 23, 0, 292, 23, 292, 292, 270, 46, 106, 270, 270, 295, 270, 270, 45, 680]
set_option maxRecDepth 20000 in
def pc_0 : List Nat := [0, 1, 4, 5, 7, 9, 12, 13, 16, 17, 20, 23, 24, 26, 29, 32, 33, 34, 37, 38, 39, 42, 43, 46, 47, 48, 49, 52, 53, 56, 57, 58, 59, 62, 63, 66, 67, 70, 71, 72, 75, 76, 77, 80, 81, 84, 85, 86, 87, 90, 91, 94, 95, 96, 97, 100, 101, 104, 105, 108, 109, 110, 112, 113, 114, 115, 116, 117, 118, 119, 120, 121, 122, 123, 124, 127, 128, 131, 132, 135, 138, 139, 142, 143, 146, 149, 150, 153, 154, 157, 160, 161, 164, 165, 168, 171, 172, 173, 173, 174, 176, 179, 180, 183, 184, 187, 188, 191, 192, 195, 198]
set_option maxRecDepth 20000 in
def pc_1 : List Nat := [0, 1, 4, 5, 8, 10, 13]
set_option maxRecDepth 20000 in
def pc_2 : List Nat := [0, 1, 2, 3, 4, 5, 8]
set_option maxRecDepth 20000 in
def pc_3 : List Nat := [0, 1, 4, 5, 6, 9, 10, 11, 14, 15, 16, 19, 20, 22, 25]
set_option maxRecDepth 20000 in
def pc_4 : List Nat := [0, 1, 2, 3, 5, 7, 10]
set_option maxRecDepth 20000 in
def pc_5 : List Nat := [0, 1, 3, 5, 7, 9, 12]
set_option maxRecDepth 20000 in
def pc_6 : List Nat := [0, 1, 4, 5, 8, 10, 13, 14, 16, 18, 21, 22, 24, 26, 29, 30, 32, 34, 37]
set_option maxRecDepth 20000 in
def pc_7 : List Nat := [0, 1, 4, 5, 7, 9, 12, 13, 15, 17, 20]
set_option maxRecDepth 20000 in
def pc_8 : List Nat := [0, 1, 4, 5, 8, 9, 12, 15, 16, 17, 20, 21, 22, 25, 26, 29, 30, 31, 32, 35, 36, 39, 40, 41, 42, 45, 46, 49, 50, 53]
set_option maxRecDepth 20000 in
def pc_9 : List Nat := [0, 1, 4, 5, 8, 9, 12, 15, 16, 19, 20, 23, 26, 27, 30, 31, 34, 37]
set_option maxRecDepth 20000 in
def pc_10 : List Nat := [0, 1, 4]
set_option maxRecDepth 20000 in
def pc_11 : List Nat := [0, 1, 2, 3, 4, 5, 6, 6, 7, 8, 11, 12, 13, 16, 18, 19, 21, 22, 25, 28, 30, 33, 34, 37, 38, 39, 41, 44, 45, 48, 51, 52]
set_option maxRecDepth 20000 in
def pc_12 : List Nat := [0, 1, 4, 5, 8, 9, 10, 11, 12, 15, 18, 19, 20, 21, 24, 25, 26, 27, 28, 30, 30, 32, 33, 36, 39, 40, 41, 44, 46, 47, 50, 51, 54, 55, 58, 60, 61, 64, 65, 66, 69, 72, 75, 76, 77, 78, 79, 82, 83, 86, 89, 90]
set_option maxRecDepth 20000 in
def pc_13 : List Nat := [0, 1, 4, 5, 6, 9, 12, 13, 16, 19, 20]
set_option maxRecDepth 20000 in
def pc_14 : List Nat := [0, 1, 4, 7, 8, 9, 10, 13, 14, 17, 18, 19, 20, 23, 26, 27, 28, 29, 32, 33, 34, 35, 38, 41, 42, 43, 46, 49, 52, 53, 54, 55, 58, 61, 62, 63, 64, 65, 68, 71]
set_option maxRecDepth 20000 in
def pc_15 : List Nat := [0, 1, 4, 5, 8, 9, 12, 13, 16, 17, 20, 21, 24, 25, 26, 29, 30, 31, 34, 35, 36, 39]
set_option maxRecDepth 20000 in
def pc_16 : List Nat := [0, 1, 2, 2, 3, 4, 7, 10, 11, 12, 13, 16, 19, 20, 21, 22, 23, 26, 29, 32, 33, 35, 37, 38, 41, 42, 43, 46, 47, 49, 52, 53, 54, 57, 60, 61, 64, 65, 68, 69]
set_option maxRecDepth 20000 in
def pc_17 : List Nat := [0, 1, 2, 3, 5, 8, 11, 13, 16, 17, 18, 19, 20, 21, 23, 26, 29, 30, 33, 34]
set_option maxRecDepth 20000 in
def pc_18 : List Nat := [0, 1, 2, 3, 4, 5, 6, 7, 9, 10, 13, 15, 16, 19, 21, 22, 25, 28, 29, 30, 31, 34, 35, 36, 38, 40, 42, 43, 45, 45, 47, 49, 52, 53, 56, 58, 59, 61, 64, 65, 68, 70, 71, 74, 76, 78, 79, 82, 84, 85, 87, 90, 91, 94, 96, 97, 100, 102, 104, 106, 107, 108, 110, 113, 114, 116, 117, 118, 120, 121, 124, 125, 126, 127, 129, 131, 133, 135, 137, 138, 140, 140, 142, 144, 147, 148, 151, 153, 154, 156, 157, 159, 160, 162, 164, 165, 168, 169, 171, 172, 173, 174, 176, 178, 180, 183, 185, 188, 190, 192, 195, 196, 198, 199, 201, 203, 205, 208, 210, 213, 215, 217, 219, 220, 221, 223, 226, 228, 229, 232, 233, 236, 239, 241, 243, 244, 245, 247, 248, 250, 251, 253, 255, 258, 260, 263, 265, 268, 269, 271, 271, 273, 275, 276, 279, 281, 283, 284, 286, 289, 291, 292, 295, 298, 299]
set_option maxRecDepth 20000 in
def pc_19 : List Nat := [0, 1, 4, 5, 6, 9, 12, 13, 16, 17, 18, 21, 22, 23, 24, 25, 28, 31, 32, 33, 34, 37, 38, 39, 41, 42, 44, 44, 46, 47, 48, 49, 52, 53, 56, 58, 59, 61, 64, 65, 68, 70, 71, 74, 76, 78, 81, 84, 85, 88, 89, 90, 91, 93, 94, 97, 98, 101, 102]
set_option maxRecDepth 20000 in
def pc_20 : List Nat := [0, 1, 2, 3, 6, 9, 10, 11, 12, 13, 14, 15, 18, 21, 22, 25, 26]
set_option maxRecDepth 20000 in
def pc_21 : List Nat := [0, 1, 4, 5, 6, 9, 10, 11, 12, 13, 16, 19, 20, 21, 22, 25, 26, 27, 28, 29, 31, 32, 34, 34, 36, 37, 38, 39, 42, 43, 46, 48, 49, 50, 53, 54, 57, 59, 60, 63, 64, 65, 66, 69, 71, 72, 74, 77, 78, 81, 83, 84, 87, 89, 91, 94, 97, 99, 100, 101, 102, 105, 106, 109, 110]
set_option maxRecDepth 20000 in
def pc_22 : List Nat := [0, 1, 2, 3, 6, 9, 10, 11, 12, 13, 14, 15, 18, 21, 22, 25, 26]
set_option maxRecDepth 20000 in
def pc_23 : List Nat := [0, 1, 2, 5, 6, 7, 10, 11, 13, 14, 16, 16, 18, 20, 23, 25, 26, 29, 30, 32, 33, 36, 39, 40, 41, 44, 45, 46, 48, 49, 52, 55, 56, 57, 59, 60, 63, 64, 66, 69, 72, 73, 74, 76, 77, 80, 81, 84, 87, 89, 90, 93, 94, 97, 98]
set_option maxRecDepth 20000 in
def pc_24 : List Nat := [0, 1, 2, 3, 6, 9, 10, 11, 12, 15, 16, 17, 18, 21, 22, 23, 24, 25, 26, 28, 29, 32, 33, 34, 35, 36, 37, 40, 41, 42, 43, 44, 45, 47, 49, 50, 53, 54, 55, 56, 57, 58, 59, 62, 63, 64, 65, 66, 67, 69, 71, 72, 75, 76, 77, 79, 81, 82, 84, 85, 86, 88, 89, 90, 92, 94, 96, 97, 99, 100, 101, 103, 104, 105, 107, 109, 110, 113, 114, 115, 116, 119, 120, 121, 122, 123, 124, 125, 126, 128, 129, 132, 133, 136, 137, 139, 141, 143, 145, 148, 150, 152, 153, 156, 157, 158, 160, 162, 163, 165, 167, 168, 169, 172, 174, 176, 177, 179, 181, 182, 183, 186, 189, 191, 192, 194, 196, 199, 201, 202, 204, 205, 206, 209, 210]
set_option maxRecDepth 20000 in
def pc_25 : List Nat := [0, 1, 4, 5, 6, 7, 8, 11, 14, 15, 18, 19]
set_option maxRecDepth 20000 in
def pc_26 : List Nat := [0, 2, 3, 4, 5, 6, 80, 81, 82, 83, 86, 87, 90, 92, 93, 94, 97, 98, 101, 103, 104, 105, 106, 107, 108, 109, 110, 112, 113, 115, 116, 117]
set_option maxRecDepth 20000 in
def pc_27 : List Nat := [0, 1, 4, 5, 6, 9, 10]
set_option maxRecDepth 20000 in
def pc_28 : List Nat := [0, 1, 2, 5, 6, 9, 10]
set_option maxRecDepth 20000 in
def pc_29 : List Nat := [0, 1, 4, 5, 8, 9, 12, 13, 16, 17, 20, 21, 22, 23, 26, 27, 30, 31, 32, 33, 34, 37, 38, 39, 42]
set_option maxRecDepth 20000 in
def pc_30 : List Nat := [0, 1, 2, 3, 4, 5, 8, 11, 12, 13, 14, 15, 16, 17, 18, 19, 22, 25, 26, 29, 30]
set_option maxRecDepth 20000 in
def pc_31 : List Nat := [0, 1, 2, 5, 6, 7, 8, 9, 12, 13, 14, 17, 18, 20, 21, 23, 23, 25, 26, 29, 32, 33, 34, 36, 37, 40, 43, 45, 46, 49, 50, 52, 53, 54, 56, 57, 60, 61, 64, 67, 68, 69, 71, 72, 75, 77, 78, 81, 82, 83, 86, 89, 90]
set_option maxRecDepth 20000 in
def pc_32 : List Nat := [0, 1, 2, 3, 5, 8, 11, 13, 15, 17, 20, 21, 23, 24, 27, 30]
set_option maxRecDepth 20000 in
def pc_33 : List Nat := [0]
set_option maxRecDepth 20000 in
def pc_34 : List Nat := [0, 1, 2, 3, 5, 8, 11, 13, 15, 18, 20, 22, 25, 26, 27, 28, 30, 31, 34, 37, 38]
set_option maxRecDepth 20000 in
def pc_35 : List Nat := [0, 1, 2, 3, 4, 7, 10, 12, 13, 16, 18, 19, 20, 21, 22, 23, 24, 27, 30, 32, 34, 35, 38, 40, 41, 44, 45, 46, 47, 49, 51, 54, 55, 57, 58, 61, 64, 65]
set_option maxRecDepth 20000 in
def pc_36 : List Nat := [0, 1, 2, 4, 5, 6, 8, 11, 14, 16, 19, 20, 21, 22, 23, 24, 26, 27, 29, 32, 35, 36, 39, 40]
set_option maxRecDepth 20000 in
def pc_37 : List Nat := [0, 1, 2, 3, 4, 5, 8, 11, 12, 13, 14, 15, 18, 19, 20, 21, 22, 23, 24, 25, 26, 27, 30, 31, 32, 33, 34, 35, 38, 39, 40, 41, 44, 45, 46, 47, 50, 51, 52, 53, 54, 55, 56, 57, 58, 61, 64, 65, 68, 69]
set_option maxRecDepth 20000 in
def pc_38 : List Nat := [0, 1, 2, 5, 8, 9, 10, 10, 11, 12, 15, 18, 19, 22, 23, 24, 27, 28, 31, 32, 33, 34, 35, 36, 37, 40, 43]
set_option maxRecDepth 20000 in
def pc_39 : List Nat := [0, 1, 4, 5, 6, 7, 8, 9, 10, 13, 14, 17, 18, 19, 20, 21, 22, 23, 26, 27, 28, 31]
set_option maxRecDepth 20000 in
def pc_40 : List Nat := [0, 1, 4, 5, 6, 7, 10, 11, 13, 13, 15, 16, 19, 22, 23, 26, 27, 30, 31, 32, 35, 36, 37, 39, 42, 45, 46, 47, 49, 50, 53, 56, 59, 60, 63, 65, 67, 68, 71, 72, 75, 76, 77, 79, 79, 81, 84, 86, 89, 90, 93, 95, 96, 99, 100, 101, 103, 106, 109, 110, 111, 113, 115, 118, 121, 124, 125, 126, 129, 130, 133, 134, 137, 138, 141, 144, 146, 148, 151, 152, 155, 156, 159, 161, 164, 167, 168, 171, 174, 176, 179, 182, 183, 186, 187]
set_option maxRecDepth 20000 in
def pc_41 : List Nat := [0, 1, 2, 3, 4, 7, 8, 9, 12, 13, 15, 16, 18, 18, 20, 21, 24, 27, 28, 29, 31, 32, 35, 38, 40, 41, 44, 45, 47, 50, 53]
set_option maxRecDepth 20000 in
def pc_42 : List Nat := [0, 1, 2, 5, 6, 8, 9, 11, 11, 13, 14, 17, 20, 21, 22, 24, 25, 28, 29, 30, 33, 36, 38, 39, 42, 43, 45, 48, 51, 52, 53, 56, 57, 59, 59, 61, 63, 66, 67, 68, 70, 71, 74, 75, 77, 78, 81, 82, 84, 87, 90, 91, 92, 94, 95, 98]
set_option maxRecDepth 20000 in
def pc_43 : List Nat := [0, 1, 2, 3, 4, 6, 9, 12, 13, 16, 19, 20, 21, 22, 23, 25, 28, 31, 32, 34, 34, 36, 37, 40, 41, 44, 45, 48, 50, 51, 52, 55, 58, 59, 61, 61, 63, 64, 67, 68, 71, 72, 75, 77, 78, 79, 82, 85, 86, 88, 88, 90, 92, 95, 96, 97, 99, 100, 103, 104, 105, 108, 111, 114, 115, 117, 117, 119, 121, 124, 125, 128, 130, 131, 133, 136, 137, 140, 143, 144, 145, 148]
set_option maxRecDepth 20000 in
def pc_44 : List Nat := [0, 1, 3, 3, 5, 6, 9, 10, 13, 14, 17, 19, 20, 21, 24, 27, 28, 30, 30, 32, 33, 36, 37, 39, 40, 43, 44, 45, 48, 50, 52, 55, 58, 60, 63, 64, 67, 68, 71, 72, 75, 77, 80, 81, 82, 83, 85, 88, 89, 90, 91, 94, 97, 98, 100, 101, 103, 103, 105, 106, 109, 110, 113, 114, 117, 119, 120, 121, 124, 126, 127, 130, 132, 134, 137, 140, 142]
set_option maxRecDepth 20000 in
def pc_45 : List Nat := [0, 2, 3, 4, 5, 5, 6, 7, 10, 13, 14, 15, 18, 19, 20, 23, 24, 27, 30, 31]
set_option maxRecDepth 20000 in
def pc_46 : List Nat := [0, 1, 2, 5, 6, 9, 10]
set_option maxRecDepth 20000 in
def pc_47 : List Nat := [0, 1, 3, 4, 6, 7, 9, 9, 11, 12, 15, 17, 20, 21, 23, 24, 27, 28, 29, 32, 35, 38, 39, 42, 43, 45, 47, 50, 51, 53, 54, 57, 58, 59, 62, 65, 68, 69, 72, 73, 75, 78, 81, 83, 86, 88, 91, 93, 96, 97]
set_option maxRecDepth 20000 in
def pc_48 : List Nat := [0, 1, 3, 4, 6, 7, 9, 9, 11, 12, 15, 16, 18, 19, 22, 23, 24, 27, 29, 30, 32, 32, 34, 35, 38, 39, 41, 42, 45, 46, 47, 50, 52, 54, 56, 59, 60, 63, 64, 66, 68, 71, 73, 75, 77, 80, 82, 84, 86, 89, 91, 94, 95, 97, 98, 100, 103, 106, 109, 112, 114]
set_option maxRecDepth 20000 in
def pc_49 : List Nat := [0, 1, 4, 5, 8, 9, 12, 13, 16, 17, 20, 21]
set_option maxRecDepth 20000 in
def pc_50 : List Nat := [0, 1, 4, 5, 8, 11, 12, 12, 13, 14, 17, 18, 19, 20, 23, 26, 27, 28, 31, 32, 35, 36, 37, 38, 41, 44, 45, 46, 49, 52, 53]
set_option maxRecDepth 20000 in
def pc_51 : List Nat := [0, 1, 4, 5, 6, 9, 12, 13, 14, 17, 20, 21, 22, 23, 24, 24, 25, 26, 29, 30, 33, 34, 37, 38, 39, 40, 41, 42, 43, 46, 47, 48, 51, 52, 53, 56, 59, 60]
set_option maxRecDepth 20000 in
def pc_52 : List Nat := [0, 1, 2, 5, 6, 8, 11, 12, 15, 16]
set_option maxRecDepth 20000 in
def pc_53 : List Nat := [0, 1, 3, 6, 7, 10, 11]
set_option maxRecDepth 20000 in
def pc_54 : List Nat := [0, 1, 2, 5, 6, 8, 11, 12, 13, 14, 17, 18, 21, 22]
set_option maxRecDepth 20000 in
def pc_55 : List Nat := [0, 1, 4, 7, 8, 11, 14, 15, 16, 19, 20, 23, 24, 27, 30, 31, 34, 37, 38, 39, 42, 43, 46, 47, 50, 53, 54, 57, 60, 61, 62, 65, 66, 69, 70, 73, 76, 77, 80]
set_option maxRecDepth 20000 in
def pc_56 : List Nat := [0, 1, 2, 2, 3, 4, 7, 10, 11, 12, 13, 15, 17, 19, 20, 21, 24, 25, 26, 27, 29, 31, 34, 36, 38, 41, 43, 46, 48, 49, 52, 53, 56, 57, 60, 62, 63, 64, 65, 66, 69, 70, 71, 72, 73, 74, 75, 78, 80, 81, 82, 83, 84, 87, 88, 89, 90, 91, 92, 95, 98]
set_option maxRecDepth 20000 in
def pc_57 : List Nat := [0, 1, 2, 2, 3, 5, 8, 9, 10, 11, 12, 15, 16, 17, 20, 21, 22, 25, 26, 27, 30, 33, 34]
set_option maxRecDepth 20000 in
def pc_58 : List Nat := [0, 1, 3, 4, 5, 6, 7, 8, 11, 12, 14, 17, 18, 21, 22, 24, 27, 28, 31, 32, 34, 36, 39, 40, 43, 44, 45, 48, 49]
set_option maxRecDepth 20000 in
def pc_59 : List Nat := [0, 1, 4, 7, 8, 9, 10, 13, 16, 17, 18, 19, 22, 23, 26, 27, 30, 33, 34, 37, 38, 39, 42, 43, 46, 47, 48, 49, 52, 55, 58, 59, 62, 63]
set_option maxRecDepth 20000 in
def pc_60 : List Nat := [0, 1, 2, 3, 4, 4, 5, 6, 9, 12, 13, 16, 17, 18, 19, 22, 25, 28, 31, 32]
set_option maxRecDepth 20000 in
def pc_61 : List Nat := [0, 1, 2, 5, 6, 7, 7, 8, 9, 12, 13, 14, 15, 18, 19, 20, 21, 22, 23, 26, 29, 32]
set_option maxRecDepth 20000 in
def pc_62 : List Nat := [0, 1, 2, 3, 4, 4, 5, 6, 9, 12, 13, 14, 17, 18, 19, 20, 21, 24, 27, 28, 30, 31, 34, 35, 38, 39]
set_option maxRecDepth 20000 in
def pc_63 : List Nat := [0, 1, 2, 3, 4, 4, 5, 6, 9, 12, 13, 14, 15, 16, 19, 20, 21, 24, 25, 26, 27, 30, 31, 34, 35, 36, 37, 38, 41, 44, 45, 47, 48, 51, 52, 55, 56]
set_option maxRecDepth 20000 in
def pc_64 : List Nat := [0, 2, 3, 4, 5, 5, 6, 7, 10, 13, 14, 17, 18, 19, 22, 24, 25, 26, 27, 30, 31, 32, 35, 36, 37, 40, 41, 42, 43, 44, 45, 46, 49, 50, 53, 56, 57]
set_option maxRecDepth 20000 in
def pc_65 : List Nat := [0, 2, 3, 4, 5, 6, 7, 9, 11, 14, 15, 16, 19, 21, 22, 23, 24]
set_option maxRecDepth 20000 in
def pc_66 : List Nat := [0, 1, 4, 6, 7, 9, 12, 15, 16, 18, 21, 22, 23, 24, 27, 28, 29, 32, 33, 34, 37, 38, 40, 43, 44, 46, 49, 50, 53]
set_option maxRecDepth 20000 in
def pc_67 : List Nat := [0, 2, 3, 3, 4, 7, 8, 11, 13, 16, 17, 20, 21, 24, 25, 26, 27, 30, 31, 32, 33, 34, 37, 38, 39, 42, 45, 48]
set_option maxRecDepth 20000 in
def pc_68 : List Nat := [0, 2, 3, 4, 5, 6, 7, 9, 11, 14, 15, 16, 19, 21, 22, 23, 25, 26, 27, 29, 30, 31, 32]
set_option maxRecDepth 20000 in
def pc_69 : List Nat := [0, 1, 4, 5, 6, 9, 10, 11, 14, 15, 17, 20, 22, 24, 27, 29, 30, 33, 36, 37, 39, 42, 43, 44, 47, 48, 49, 51, 52, 53, 56, 58, 59, 62, 65, 66, 68, 71, 74, 77, 78, 80, 83, 84, 85, 88, 89, 92, 93, 96, 98, 99, 102, 103, 106, 109, 110, 113, 114, 117, 118, 120, 122, 125, 126, 129, 131, 134, 136, 137, 138, 141, 142, 144, 147, 148, 150, 152, 155, 157, 160, 162, 163, 164, 167, 168, 169, 172, 173, 175, 178]
set_option maxRecDepth 20000 in
def pc_70 : List Nat := [0, 1, 4, 5, 6, 9, 12, 15, 16, 19, 22, 23]
set_option maxRecDepth 20000 in
def pc_71 : List Nat := [0, 1, 4, 5, 8, 9, 10, 10, 11, 12, 15, 16, 18, 21, 22, 25, 26, 29, 30, 31, 34, 35, 38, 41, 44]
set_option maxRecDepth 20000 in
def pc_72 : List Nat := [0, 1, 4, 5, 7, 10, 11, 14, 17, 18, 19, 22]
set_option maxRecDepth 20000 in
def pc_73 : List Nat := [0, 1, 2, 3, 6]
set_option maxRecDepth 20000 in
def pc_74 : List Nat := [0, 1, 4, 7, 8, 11, 12, 13, 14, 17, 20, 23, 24, 27, 28, 29, 30, 33, 36]
set_option maxRecDepth 20000 in
def pc_75 : List Nat := [0, 3, 6, 7, 10, 13, 14, 17, 18]
set_option maxRecDepth 20000 in
def pc_76 : List Nat := [0, 1, 4, 5, 6, 9, 10]
set_option maxRecDepth 20000 in
def pc_77 : List Nat := [0, 3, 6, 7, 10, 13, 14]
set_option maxRecDepth 20000 in
def pc_78 : List Nat := [0, 1, 4, 7, 8, 9, 10, 11, 14, 15, 16, 17, 18, 21, 22, 23, 24, 27, 28, 29, 30, 31, 32, 33, 36]
set_option maxRecDepth 20000 in
def pc_79 : List Nat := [0, 1, 4, 5, 8, 11, 12, 15, 16]
set_option maxRecDepth 20000 in
def pc_80 : List Nat := [0, 1, 2, 4, 5, 7, 7, 9, 10, 13, 14, 16, 17, 19, 22, 24, 25, 28, 31, 32]
set_option maxRecDepth 20000 in
def pc_81 : List Nat := [0, 1, 2, 2, 3, 4, 7, 10, 13, 14, 15, 18, 21, 22, 23, 24, 25, 28, 31, 34, 37, 38, 39, 42, 45, 46]
set_option maxRecDepth 20000 in
def pc_82 : List Nat := [0, 1, 3, 6, 7, 9, 12, 13, 16, 17, 19, 20, 23, 24, 26, 29, 30, 33, 34, 36, 37, 40, 41, 42, 43, 44, 47, 49, 52, 54]
set_option maxRecDepth 20000 in
def pc_83 : List Nat := [0, 1, 4, 5, 7, 10, 11, 14, 15]
set_option maxRecDepth 20000 in
def pc_84 : List Nat := [0, 1, 4, 6, 9, 12, 13, 16, 19, 20]
set_option maxRecDepth 20000 in
def pc_85 : List Nat := [0, 1, 2, 2, 3, 4, 7, 10, 11, 14, 15, 16, 19, 20, 23, 24, 25, 27, 29, 32, 34, 36, 39, 40, 43, 46, 48, 49, 51, 53, 55, 55, 57, 60, 61, 63, 65, 66, 67, 68, 69, 72, 73, 76, 77, 80, 83, 86, 89, 92]
set_option maxRecDepth 20000 in
def pc_86 : List Nat := [0, 1, 4, 5, 8, 9, 12, 13, 16, 17, 20, 21, 22, 23, 24, 27, 28, 29, 32]
set_option maxRecDepth 20000 in
def pc_87 : List Nat := [0, 1, 2, 5, 6, 7, 7, 8, 9, 12, 15, 16, 17, 20, 21, 22, 25, 26, 27, 30, 31, 32, 33, 35, 37, 39, 39, 41, 43, 44, 45, 48, 50, 53, 55, 58, 59, 62, 63, 66, 68, 69, 72, 75, 78, 81, 84, 85, 86, 89]
set_option maxRecDepth 20000 in
def pc_88 : List Nat := [0, 1, 2, 2, 3, 4, 7, 8, 9, 12, 15, 18]
set_option maxRecDepth 20000 in
def pc_89 : List Nat := [0, 1, 2, 2, 3, 4, 7, 8, 9, 12, 15, 18, 19, 20, 20, 21, 22, 23, 24, 27, 30, 31, 34, 35, 36, 39, 41, 42, 45, 46, 47, 48, 49, 52, 54, 55, 57, 57, 59, 62, 63, 65, 67, 68, 69, 70, 71, 74, 75, 78, 79, 82, 83, 85, 87, 88, 89, 90, 91, 94, 95, 98, 99, 102, 105, 108, 111, 114, 115, 116, 119, 120, 121, 124, 125, 126, 129]
set_option maxRecDepth 20000 in
def pc_90 : List Nat := [0, 1, 4, 5, 8, 9, 12, 13, 16, 19, 20, 21]
set_option maxRecDepth 20000 in
def pc_91 : List Nat := [0, 2, 4, 5, 7, 7, 9, 10, 13, 16, 19, 20, 23, 26, 28, 29, 30, 31, 33, 34, 35, 38, 39, 42, 43, 44, 45, 47, 49, 52, 55, 57, 58, 61, 62, 64, 66, 68, 70, 71, 72, 73, 74, 75, 76, 78, 79, 81, 82, 85, 88, 91, 94]
set_option maxRecDepth 20000 in
def pc_92 : List Nat := [0, 1, 2, 5, 6, 7, 10, 11, 12, 15, 16, 19, 20, 21]
set_option maxRecDepth 20000 in
def pc_93 : List Nat := [0, 1, 2, 2, 3, 4, 7, 8, 11, 12, 13, 14, 17, 18, 21, 22, 23, 24, 27, 30, 33]
set_option maxRecDepth 20000 in
def pc_94 : List Nat := [0, 1, 2, 3, 4, 5, 8, 9, 10, 13, 15, 16, 17, 19, 20, 21, 22]
set_option maxRecDepth 20000 in
def pc_95 : List Nat := [0, 1, 4, 5, 6, 9, 10, 13, 14, 15, 16, 17, 18, 19, 20, 23, 25, 26, 27, 30, 31, 34, 36, 37, 40, 41, 42, 43, 44, 47, 50, 51, 52, 55, 58, 61, 62, 64, 67, 68, 69, 70, 72, 75, 78]
set_option maxRecDepth 20000 in
def pc_96 : List Nat := [0, 1, 2, 3]
set_option maxRecDepth 20000 in
def pc_97 : List Nat := [0, 1, 2, 3]
set_option maxRecDepth 20000 in
def pc_98 : List Nat := [0, 1, 4, 5, 6, 9, 12, 13, 16, 17, 20, 21, 24, 25, 26, 29, 30, 30, 31, 32, 35, 36, 39, 40, 41, 44, 45, 46, 47, 48, 49, 52, 55, 56, 59, 60, 61, 62, 63, 64, 67, 68, 69, 72]
set_option maxRecDepth 20000 in
def pc_99 : List Nat := [0, 1, 4, 5, 6, 9, 12, 15, 16, 17, 18, 19, 20, 22, 23, 25, 25, 27, 29, 32, 33, 36, 39, 40, 42, 43, 44, 46, 47, 48, 51, 54, 57, 60, 61, 62, 65, 68, 71, 73, 74, 77, 80, 83, 85, 86, 89, 90, 93, 94]
set_option maxRecDepth 20000 in
def pc_100 : List Nat := [0, 1, 4, 5, 7, 10, 11, 14, 17, 18, 21]
set_option maxRecDepth 20000 in
def pc_101 : List Nat := [0, 1, 4, 7, 8, 11, 12, 15, 16, 17, 20, 21, 24]
set_option maxRecDepth 20000 in
def pc_102 : List Nat := [0, 1, 2, 3, 6, 7, 8, 9, 12, 13, 14]
set_option maxRecDepth 20000 in
def pc_103 : List Nat := [0, 1, 2, 5, 8, 9]
set_option maxRecDepth 20000 in
def pc_104 : List Nat := [0, 1, 4, 5, 6, 9, 10, 11, 12, 15, 16, 17]
set_option maxRecDepth 20000 in
def pc_105 : List Nat := [0, 2, 3, 4, 5, 6, 7, 9, 11, 13, 16, 17, 18, 21, 23, 24, 25, 27, 28, 29, 30]
set_option maxRecDepth 20000 in
def pc_106 : List Nat := [0, 1, 4, 5, 8, 9, 12, 13, 16, 17, 20, 21, 24, 25, 28, 29, 32, 33, 36, 38, 41, 42, 45, 47, 50, 51, 54, 56, 59, 60, 63, 64, 67, 70, 73, 76, 77, 79, 82, 83, 84, 87, 90, 92, 93, 96, 99, 101, 102, 105, 108, 111, 112, 114, 117, 118, 119, 121, 121, 123, 125, 128, 129, 132, 133, 136, 139, 141, 142, 145, 148, 151, 152, 155, 158]
set_option maxRecDepth 20000 in
def pc_107 : List Nat := [0, 1, 2, 2, 3, 4, 7, 10, 11, 14, 15, 16, 17, 20, 21, 24, 25, 26, 27, 30, 31, 32, 35, 38, 39]
set_option maxRecDepth 20000 in
def pc_108 : List Nat := [0, 1, 2, 2, 3, 4, 7, 10, 11, 14, 15, 16, 19, 22, 25, 26]
set_option maxRecDepth 20000 in
def pc_109 : List Nat := [0, 1, 2, 3, 6, 7, 8, 11, 12, 13, 14, 15]
set_option maxRecDepth 20000 in
def pc_110 : List Nat := [0, 1, 4, 7, 8, 11, 12, 15, 18, 19, 20, 23, 26, 27, 29, 32, 33, 34, 37, 38, 41, 42, 45, 46, 47, 48, 51, 52, 55, 58, 59, 62, 63, 66, 67, 68, 71]
set_option maxRecDepth 20000 in
def pc_111 : List Nat := [0, 1, 2, 5, 8, 9, 10, 10, 11, 12, 15, 18, 19, 22, 23, 24, 27, 28, 29, 30, 33, 36]
set_option maxRecDepth 20000 in
def pc_112 : List Nat := [0, 1, 2, 3, 4, 7, 8, 9, 12, 13, 14, 15, 16]
set_option maxRecDepth 20000 in
def pc_113 : List Nat := [0, 1, 2, 5, 6, 9, 10, 11, 14, 17]
set_option maxRecDepth 20000 in
def pc_114 : List Nat := [0, 1, 4, 5, 6, 9, 12, 15, 16, 19, 22, 23]
set_option maxRecDepth 20000 in
def pc_115 : List Nat := [0, 1, 2, 3, 4, 5, 8, 9, 10, 13, 15, 16, 17, 18]
set_option maxRecDepth 20000 in
def pc_116 : List Nat := [0, 1, 2, 5, 6, 9, 10, 11, 14, 15, 16, 17, 20, 23, 24, 27, 28, 29]
set_option maxRecDepth 20000 in
def pc_117 : List Nat := [0, 1, 4, 5, 6, 9, 12, 13, 16, 19, 20]
set_option maxRecDepth 20000 in
def pc_118 : List Nat := [0, 2, 3, 4, 5, 6, 7, 10, 11, 12, 15, 17, 18, 19, 21, 22, 23, 24]
set_option maxRecDepth 20000 in
def pc_119 : List Nat := [0, 1, 2, 5, 6, 9, 10, 11, 14, 16, 17, 19, 22, 25, 26, 27, 30, 31, 34, 37, 40, 41, 43, 46, 47, 49, 52, 53, 54, 56, 58, 61, 62, 63, 64, 65, 66, 69, 70, 71, 74, 76]
set_option maxRecDepth 20000 in
def pc_120 : List Nat := [0, 2, 3, 4, 5, 6, 7, 10, 11, 12, 15, 17, 18, 19, 21, 22, 23, 24]
set_option maxRecDepth 20000 in
def pc_121 : List Nat := [0, 1, 2, 5, 6, 9, 10, 11, 14, 16, 17, 19, 22, 25, 26, 28, 31, 34, 35, 36, 37, 40, 41, 42, 43, 46, 47, 48, 49, 50, 53, 56, 57, 59, 62, 63, 65, 66, 67, 70, 71, 72, 75, 76, 77, 80, 82, 85]
set_option maxRecDepth 20000 in
def pc_122 : List Nat := [0, 1, 4, 5, 6, 9, 12, 13, 14, 15, 15, 16, 17, 20, 21, 24, 25, 26, 27, 28, 31, 32, 33, 34, 37, 40, 41, 42, 43, 44, 45, 46, 49]
set_option maxRecDepth 20000 in
def pc_123 : List Nat := [0, 1, 2, 5, 8, 9, 10, 11, 12]
set_option maxRecDepth 20000 in
def pc_124 : List Nat := [0, 1, 2, 5, 6, 9, 10, 11, 14, 15, 16, 19, 20, 23, 24, 25, 28, 31, 32, 33, 36, 37, 38, 41]
set_option maxRecDepth 20000 in
def pc_125 : List Nat := [0, 1, 2, 3, 4, 5, 8, 9, 10, 13, 15, 16, 17, 19, 20, 21, 22]
set_option maxRecDepth 20000 in
def pc_126 : List Nat := [0, 1, 2, 5, 6, 8, 11, 12, 14, 17, 20, 21, 23, 26, 27, 28, 31, 32, 33, 36, 37, 40, 41, 42, 43, 46, 47, 48, 51, 52]
set_option maxRecDepth 20000 in
def pc_127 : List Nat := [0, 1, 2, 3, 4, 4, 5, 6, 9, 10, 11, 14, 15, 18, 19, 20, 21, 22, 23, 24, 27, 28, 31, 32, 33, 34, 36, 37, 39, 42, 45, 48, 50, 52, 54, 57, 60, 61, 64, 65, 67, 68, 71, 74, 75]
set_option maxRecDepth 20000 in
def pc_128 : List Nat := [0, 1, 2, 3, 6, 9, 10, 11, 12, 13, 14, 15, 16]
set_option maxRecDepth 20000 in
def pc_129 : List Nat := [0, 1, 2, 5, 6, 7, 10, 11, 14, 15, 16, 19, 20, 21, 24, 25, 26, 29, 31, 32, 35, 37, 40, 43, 46, 47, 49, 52, 53, 54, 56, 56, 58, 59, 62, 65, 66, 69, 71, 72, 75, 77, 78, 80, 83, 85, 86, 87, 88, 89, 90, 91, 92, 95, 98, 99, 100, 103, 104, 105, 108]
set_option maxRecDepth 20000 in
def pc_130 : List Nat := [0, 1, 2, 3, 4, 7, 8, 9, 12, 13, 14, 15, 16]
set_option maxRecDepth 20000 in
def pc_131 : List Nat := [0, 1, 2, 5, 6, 9, 10, 11, 12, 13, 14, 14, 15, 16, 17, 18, 21, 24, 25, 28, 29, 30, 33, 34, 35, 36, 37, 38, 41, 44, 45, 46, 49, 50, 51, 54, 55, 58, 59, 62, 63, 64, 65, 66, 69, 70, 73]
set_option maxRecDepth 20000 in
def pc_132 : List Nat := [0, 1, 2, 3, 4, 5, 8, 9, 10, 13, 15, 16, 17, 18]
set_option maxRecDepth 20000 in
def pc_133 : List Nat := [0, 1, 2, 3, 6, 9, 12]
set_option maxRecDepth 20000 in
def pc_134 : List Nat := [0, 1, 2, 5, 6, 9, 10, 13, 14, 15, 18, 19, 20, 21, 22, 25, 26, 27, 28, 31, 32, 33, 36, 37, 40, 41, 44, 45]
set_option maxRecDepth 20000 in
def pc_135 : List Nat := [0, 2, 3, 4, 5, 6, 7, 10, 11, 12, 15, 17, 18, 19, 20]
set_option maxRecDepth 20000 in
def pc_136 : List Nat := [0, 1, 2, 3, 6, 7, 10, 13]
set_option maxRecDepth 20000 in
def pc_137 : List Nat := [0, 1, 4, 5, 8, 11, 12, 15]
set_option maxRecDepth 20000 in
def pc_138 : List Nat := [0, 2, 3, 4, 5, 6, 7, 10, 11, 12, 15, 17, 18, 19, 20]
set_option maxRecDepth 20000 in
def pc_139 : List Nat := [0, 1, 2, 3, 6, 9, 11, 12, 14, 17, 20, 22, 25, 26, 27, 30]
set_option maxRecDepth 20000 in
def pc_140 : List Nat := [0, 2, 3, 4, 5, 6, 7, 10, 11, 12, 15, 17, 18, 19, 20]
set_option maxRecDepth 20000 in
def pc_141 : List Nat := [0, 1, 2, 3, 6, 9, 11, 12, 14, 17, 20, 22, 25, 26, 27]
set_option maxRecDepth 20000 in
def pc_142 : List Nat := [0, 2, 3, 4, 5, 6, 7, 9, 12, 13, 14, 17, 19, 20, 21, 22]
set_option maxRecDepth 20000 in
def pc_143 : List Nat := [0, 1, 2, 3, 6, 7, 10, 12, 14, 16, 19, 22, 24, 27, 29, 30, 33]
set_option maxRecDepth 20000 in
def pc_144 : List Nat := [0, 1, 2, 3, 4, 5, 8, 11, 12, 15, 16, 17, 20, 22, 23, 24, 25]
set_option maxRecDepth 20000 in
def pc_145 : List Nat := [0, 1, 2, 3, 6, 9]
set_option maxRecDepth 20000 in
def pc_146 : List Nat := [0, 2, 3, 4, 5, 6, 7, 10, 11, 12, 15, 17, 18, 19, 20]
set_option maxRecDepth 20000 in
def pc_147 : List Nat := [0, 1, 2, 3, 6, 9, 11, 12, 13, 14, 17, 20, 22, 24, 27, 30, 32, 35, 37, 40, 43, 44, 45, 46, 48, 49, 51, 51, 53, 55, 58, 61, 63, 66, 68, 69, 71, 74, 76, 77, 80, 83, 86, 89, 91]
set_option maxRecDepth 20000 in
def pc_148 : List Nat := [0, 2, 3, 4, 5, 6, 7, 10, 11, 12, 15, 17, 18, 19, 20]
set_option maxRecDepth 20000 in
def pc_149 : List Nat := [0, 1, 2, 3, 6, 9, 11, 12, 13, 14, 17, 20, 22, 24, 27, 30, 32, 35, 38, 39, 40, 42, 45, 47, 50, 53, 55, 57, 59, 59, 61, 64, 66, 68, 70, 73, 76, 78, 79, 82, 85, 86]
set_option maxRecDepth 20000 in
def pc_150 : List Nat := [0, 1, 2, 3, 4, 5, 8, 9, 10, 13, 15, 16, 17, 19, 20, 21, 22]
set_option maxRecDepth 20000 in
def pc_151 : List Nat := [0, 1, 2, 3, 6, 7, 8, 9, 12, 13, 14, 15, 18, 19, 22, 23, 24, 27, 30, 31, 32, 33, 36, 38, 40, 41, 42, 45, 46, 47, 48, 51, 52, 53, 56, 57, 60, 61, 64, 65, 68, 70, 73, 75, 76, 78, 79, 80]
set_option maxRecDepth 20000 in
def pc_152 : List Nat := [0, 1, 4, 7, 10, 13, 14, 17, 20, 21, 22, 25, 26, 29, 30, 31, 34, 35, 38, 41]
set_option maxRecDepth 20000 in
def pc_153 : List Nat := [0, 1, 3, 4, 7, 8, 9, 12, 15, 16, 17, 20, 22, 23, 24, 26, 26, 28, 29, 32, 34, 35, 38, 40, 41, 42, 43, 45, 47, 48, 49, 51, 54, 56]
set_option maxRecDepth 20000 in
def pc_154 : List Nat := [0, 1, 2, 3, 4, 5, 8, 9, 10, 13, 15, 16, 17, 19, 20, 21, 22]
set_option maxRecDepth 20000 in
def pc_155 : List Nat := [0, 1, 2, 3, 6, 7, 8, 9, 12, 13, 14, 15, 18, 19, 22, 23, 24, 27, 30, 31, 32, 33, 36, 38, 38, 39, 42, 43, 44, 47, 50, 51, 52, 53, 56, 58, 58, 59, 62, 63, 64, 67, 69, 71, 72, 75, 76, 79, 80, 83, 85, 85, 87, 88, 91, 92, 95, 96, 99, 101, 101, 102, 105, 108, 109, 110, 111, 112, 113, 115, 116, 118, 118, 120, 121, 122, 125, 126, 127, 130, 132, 134, 135, 137, 139, 140, 141, 142, 144, 147, 148]
set_option maxRecDepth 20000 in
def pc_156 : List Nat := [0, 1, 2, 3, 5, 6, 7, 8, 9, 10, 13, 15, 16, 17, 18, 19, 22, 24, 25, 26, 27, 29]
set_option maxRecDepth 20000 in
def pc_157 : List Nat := [0, 2, 3, 4, 5, 6, 7, 10, 11, 12, 15, 17, 18, 19, 20]
set_option maxRecDepth 20000 in
def pc_158 : List Nat := [0, 1, 2, 3, 6, 9, 11, 12, 13, 14, 17, 20, 22, 23, 26, 27, 28, 30, 32, 35, 37, 39, 40, 43, 44, 47, 49, 52, 54, 57, 58, 60, 61]
set_option maxRecDepth 20000 in
def pc_159 : List Nat := [0, 2, 3, 4, 5, 6, 7, 9, 12, 13, 14, 17, 19, 20, 21, 22]
set_option maxRecDepth 20000 in
def pc_160 : List Nat := [0, 1, 2, 3, 6, 9, 11, 12, 13, 14, 17, 20, 22, 23, 26, 27, 28, 30, 32, 35, 37, 39, 41, 42, 45, 46, 49, 51, 54, 56, 59, 60, 62, 63, 66, 68, 70, 73, 76, 78, 81, 83, 84, 87, 88, 90, 93, 95, 97, 100, 101, 103, 104, 105, 108]
set_option maxRecDepth 20000 in
def pc_161 : List Nat := [0, 1, 2, 3, 4, 7, 8, 9, 12, 13, 14, 15, 16, 17, 18, 19]
set_option maxRecDepth 20000 in
def pc_162 : List Nat := [0, 1, 4, 5, 6, 7, 8, 9, 11, 11, 13, 14, 17, 20, 21, 23, 24, 27, 30, 32, 34, 37, 40, 42, 45, 46, 49, 51, 52, 54, 57, 58, 61, 64, 65, 66, 69, 72, 73, 76, 79, 80, 81]
set_option maxRecDepth 20000 in
def pc_163 : List Nat := [0, 1, 2, 3, 4, 7, 8, 9, 12, 13, 14, 15, 16]
set_option maxRecDepth 20000 in
def pc_164 : List Nat := [0, 1, 2, 5, 8]
set_option maxRecDepth 20000 in
def pc_165 : List Nat := [0, 2, 3, 4, 5, 6, 7, 10, 11, 12, 15, 17, 18, 19, 20]
set_option maxRecDepth 20000 in
def pc_166 : List Nat := [0, 1, 2, 5, 7, 8, 10, 13, 16, 17, 18, 21, 23, 26, 27, 28, 29, 30, 33, 35, 37, 38, 41, 42, 45, 47, 48, 50, 53]
set_option maxRecDepth 20000 in
def pc_167 : List Nat := [0, 1, 2, 3, 4, 5, 8, 9, 10, 13, 15, 16, 17, 18]
set_option maxRecDepth 20000 in
def pc_168 : List Nat := [0, 1, 2, 5, 6, 7, 8, 11, 14, 15, 18, 19, 20, 23]
set_option maxRecDepth 20000 in
def pc_169 : List Nat := [0, 1, 2, 3, 4, 5, 8, 9, 10, 13, 15, 16, 17, 18]
set_option maxRecDepth 20000 in
def pc_170 : List Nat := [0, 1, 2, 5, 6, 7, 8, 11, 14, 15, 16, 17, 20, 22, 24, 25, 28, 29, 32, 33, 34, 36, 39, 42]
set_option maxRecDepth 20000 in
def pc_171 : List Nat := [0, 1, 2, 3, 5, 6, 8, 8, 10, 12, 15, 16, 17, 19, 22, 24, 26, 28, 31, 32, 33, 36, 38, 41, 42, 45, 48, 49, 52, 53, 55, 57, 58, 61, 63, 65, 68, 70, 73, 75, 76, 78, 80, 83, 86, 87]
set_option maxRecDepth 20000 in
def pc_172 : List Nat := [0, 1, 2, 3, 4, 7, 8, 9, 12, 13, 14, 15, 16]
set_option maxRecDepth 20000 in
def pc_173 : List Nat := [0, 1, 2, 3, 6, 7, 10]
set_option maxRecDepth 20000 in
def pc_174 : List Nat := [0, 1, 2, 3, 4, 7, 8, 9, 12, 13, 14, 15, 16]
set_option maxRecDepth 20000 in
def pc_175 : List Nat := [0, 1, 2, 5, 8]
set_option maxRecDepth 20000 in
def pc_176 : List Nat := [0, 1, 2, 2, 3, 4, 7, 10, 11, 14, 15, 16, 17, 20, 21, 22, 25, 28, 29]
set_option maxRecDepth 20000 in
def pc_177 : List Nat := [0, 1, 2, 3, 4, 7, 8, 9, 12, 13, 14, 15, 16, 17, 18, 19, 20, 21, 22]
set_option maxRecDepth 20000 in
def pc_178 : List Nat := [0, 1, 2, 5, 6, 7, 10, 11, 14, 17, 18, 21, 24, 25, 26, 29, 30, 33, 34, 37, 40, 41, 42, 45, 46, 47, 48, 51, 54, 55, 56, 57, 60, 63, 64, 67, 70, 71, 72, 75]
set_option maxRecDepth 20000 in
def pc_179 : List Nat := [0, 1, 2, 3, 4, 7, 8, 9, 12, 13, 14, 15, 16, 17, 18, 19]
set_option maxRecDepth 20000 in
def pc_180 : List Nat := [0, 1, 2, 5, 6, 7, 8, 9, 11, 12, 14, 14, 16, 17, 20, 23, 24, 26, 27, 30, 33, 35, 37, 40, 43, 45, 48, 49, 52, 55, 56, 58, 61, 63, 66, 68, 69, 70, 72, 75, 77, 80, 83, 84, 85, 88, 91, 92, 95, 98, 99, 100]
set_option maxRecDepth 20000 in
def pc_181 : List Nat := [0, 1, 2, 3, 4, 4, 5, 6, 9, 12, 13, 16, 17, 18, 19, 22, 23, 24, 27, 30, 33, 36, 37]
set_option maxRecDepth 20000 in
def pc_182 : List Nat := [0, 1, 2, 3, 4, 5, 8, 11, 12, 15, 16, 17, 20, 22, 23, 24, 25]
set_option maxRecDepth 20000 in
def pc_183 : List Nat := [0, 1, 4, 5, 8, 9, 10, 11, 12, 15, 16, 17, 18, 19]
set_option maxRecDepth 20000 in
def pc_184 : List Nat := [0, 1, 4, 5, 8, 10, 13, 14, 16, 18, 21, 22, 25, 27, 30, 31, 33, 35, 38, 39, 40, 42, 43, 44, 45, 46, 47, 48, 49, 50, 51, 52, 53, 54, 57, 58, 60, 62, 63, 64, 67, 68, 69, 70, 73, 74, 75, 76, 79, 80, 81, 82, 85, 86, 87, 88, 91, 92, 93, 94, 97, 98, 99, 101, 104, 105, 106, 108, 111, 112, 113, 115, 118, 119, 120, 122, 125, 126, 129, 130, 132, 134, 135, 136, 138, 139, 140, 141, 143, 144, 145, 146, 148, 149, 150, 151, 153, 154, 155, 156, 157, 158, 159, 160, 162, 163, 164, 166, 168, 169, 170, 172, 173, 174, 175, 177, 179, 180, 181, 183, 185, 186, 189, 190, 192, 194, 195, 196, 197, 198, 199, 200, 202, 203, 204, 205, 207, 208, 209, 210, 212, 213, 214, 215, 217, 218, 219, 220, 222, 223, 224, 226, 228, 229, 230, 232, 234, 235, 236, 238, 240, 241, 242, 244, 246, 247, 248, 250, 252, 253, 254, 256, 258, 259, 260, 262, 264, 265, 266, 268, 270, 271, 272, 274, 276, 277, 278, 280, 282, 283, 284, 286, 288, 289, 290, 292, 294, 295, 296, 298, 300, 301, 302, 304, 306, 307, 310, 311, 313, 315, 318, 319, 321, 323, 326, 327, 330, 332, 335, 336, 338, 340, 343, 344, 346, 348, 351, 352, 354, 356, 359, 360, 363, 365, 368, 369, 372, 374, 377, 378, 380, 382, 385, 386, 388, 390, 393, 394, 396, 398, 401, 402, 405, 407, 410]
set_option maxRecDepth 20000 in
def pc_185 : List Nat := [0, 1, 4]
set_option maxRecDepth 20000 in
def pc_186 : List Nat := [0, 1, 2, 5, 7, 8, 10, 13, 14, 17, 18, 21, 22, 25, 28, 29, 30, 31, 33, 33, 35, 37, 40, 42, 43, 46, 47, 50, 52, 54, 57, 58, 61, 63, 65, 68, 69, 72, 74, 76, 79, 81, 84, 86, 88, 89, 92, 93, 96, 98, 100, 102, 104, 105, 106, 107, 108, 109, 112, 113, 114, 115, 116, 119, 120, 121, 124, 127, 130, 131, 134]
set_option maxRecDepth 20000 in
def pc_187 : List Nat := [0, 1, 2, 5, 8, 9, 12, 13, 14, 15, 16, 18, 21, 24, 25, 28, 29, 32, 34, 37, 38, 41, 42, 45, 46, 49, 52, 53, 54, 55, 57, 57, 59, 60, 63, 64, 67, 69, 70, 73, 75, 76, 77, 80, 83, 84, 85, 86, 89, 92, 93, 96, 97, 99, 101, 103, 104, 107, 109, 111, 112, 113, 114, 115, 117, 117, 119, 120, 123, 126, 128, 130, 131, 134, 135, 137, 138, 141, 143, 144, 145, 146, 148, 149, 150, 153, 155, 158, 160, 161, 162, 164, 167, 168, 171, 173, 175, 176, 177, 178, 179, 180, 181, 183, 184, 187, 189, 191, 192, 193, 194, 196, 197, 200, 201, 204, 206, 207, 210, 213, 214, 217, 219, 220, 223, 224, 225, 226, 228, 229, 230, 231, 232, 235, 236, 239, 240, 243, 244, 245, 246, 247, 248, 251, 252, 253, 256, 257, 258, 261, 262, 265, 266, 267]
set_option maxRecDepth 20000 in
def pc_188 : List Nat := [0, 1, 2, 3, 6, 9]
set_option maxRecDepth 20000 in
def pc_189 : List Nat := [0, 1, 2, 3, 6, 7, 9, 10, 13, 14, 17, 18]
set_option maxRecDepth 20000 in
def pc_190 : List Nat := [0, 1, 2, 3, 4, 7, 8, 11, 14, 15, 16, 19, 22, 25, 28, 30, 31, 34, 37, 40, 43, 44, 45, 48, 51, 52, 53, 54, 57, 60, 61, 64, 65]
set_option maxRecDepth 20000 in
def pc_191 : List Nat := [0, 1, 4, 5, 7, 10, 11, 14, 15, 18, 19, 20, 23, 24, 25, 26, 29, 30, 31, 34, 37, 40, 43, 44, 47, 48, 51, 52, 53, 56, 59, 62]
set_option maxRecDepth 20000 in
def pc_192 : List Nat := [0, 1, 2, 2, 3, 4, 7, 8, 9, 12, 13, 16, 17, 18, 19, 20, 23, 24, 27, 28, 30, 31, 32, 35, 36, 39, 40, 41, 42, 45, 48, 51, 54, 56, 59, 60, 63, 64, 65, 68, 71, 72, 75, 76, 77, 80, 81, 84, 85, 88, 89, 90, 93, 96, 97, 100, 101, 103, 105, 108, 109, 110, 113, 116, 117]
set_option maxRecDepth 20000 in
def pc_193 : List Nat := [0, 1, 2, 5, 8, 11]
set_option maxRecDepth 20000 in
def pc_194 : List Nat := [0, 1, 2, 2, 3, 5, 8, 10, 11, 14, 15, 18, 19, 20, 23, 26, 27]
set_option maxRecDepth 20000 in
def pc_195 : List Nat := [0, 1, 2, 5, 6, 9, 10, 13, 16, 17, 18, 21, 22, 23, 26, 29, 30, 31, 34]
set_option maxRecDepth 20000 in
def pc_196 : List Nat := [0, 1, 2, 5, 6, 7, 7, 8, 10, 13, 14, 15, 18, 19, 20, 23, 26, 27, 27, 28, 31, 32, 33, 36, 37, 40, 41, 42, 44, 45, 46, 47, 48, 50, 51, 54, 55, 57, 58, 59, 62, 65, 68, 69, 70, 73]
set_option maxRecDepth 20000 in
def pc_197 : List Nat := [0, 1, 2, 2, 3, 4, 7, 8, 9, 12, 15, 18]
set_option maxRecDepth 20000 in
def pc_198 : List Nat := [0, 1, 4, 5, 8, 9, 10, 11, 12, 15, 16, 17, 20]
set_option maxRecDepth 20000 in
def pc_199 : List Nat := [0, 1, 2, 5, 6, 7, 7, 8, 9, 12, 13, 14, 14, 15, 18, 19, 20, 23, 24, 27, 28, 29, 31, 32, 33, 34, 37, 40, 41, 42, 45, 46, 49, 50, 51, 52, 53, 55, 56, 57, 58, 61, 64, 67, 70, 73, 76, 77, 78, 81, 82, 83, 86]
set_option maxRecDepth 20000 in
def pc_200 : List Nat := [0, 1, 2, 3, 4, 5, 6, 9, 10, 13, 14]
set_option maxRecDepth 20000 in
def pc_201 : List Nat := [0, 1, 2, 2, 3, 4, 7, 8, 11, 12, 13, 16, 18, 19, 19, 20, 23, 24, 25, 28, 29, 32, 33, 34, 37, 38, 39, 42, 45, 48, 51, 54, 57]
set_option maxRecDepth 20000 in
def pc_202 : List Nat := [0, 1, 2, 5, 8, 9, 12, 13, 14, 15, 16, 19, 20, 23, 26, 27, 28, 29, 30, 33, 36, 37, 38, 39, 42, 45, 46, 49, 50, 53, 54, 57, 60, 61, 62, 63, 64, 65, 66, 69, 70, 72, 72, 74, 75, 78, 79, 80, 83, 85, 86, 89, 90, 91, 94, 97, 99, 101, 102, 104, 105, 106, 108, 109, 112, 113, 114, 116, 116, 118, 119, 122, 123, 125, 126, 127, 130, 131, 134, 135, 136, 139, 141, 142, 144, 145, 146, 147, 148, 151, 154, 156, 158, 159, 161, 162, 163, 165, 166, 167]
set_option maxRecDepth 20000 in
def pc_203 : List Nat := [0, 1, 2, 5, 8, 9, 10, 13, 16, 17, 18, 21, 24, 26, 27, 30, 33, 35, 36, 39, 42, 44, 45, 48, 51, 52, 55, 56, 58, 58, 59, 62, 63, 66, 67, 70, 71, 74, 75, 78, 79, 82, 84, 87, 88, 91, 93, 96, 97, 100, 102, 105, 106, 109, 111, 113, 113, 114, 116, 119, 120, 123, 124, 127, 129, 130, 133, 136, 137, 140, 141, 144, 145, 148, 151, 152, 153, 154, 156, 156, 158, 160, 163, 164, 167, 168, 171, 173, 176, 177, 180, 182, 183, 186, 187, 190, 192, 193, 196, 197, 200, 202, 203, 206, 208, 211, 213, 214, 217, 219, 222, 224, 225, 226, 227, 230, 231, 232, 235, 238, 241, 242, 245]
set_option maxRecDepth 20000 in
def pc_204 : List Nat := [0, 1, 2, 3, 4, 7, 10]
set_option maxRecDepth 20000 in
def pc_205 : List Nat := [0, 1, 2, 5, 6, 9, 10, 13, 14, 15, 18, 19, 22, 24, 27, 28, 31, 32, 35, 36, 39, 42, 43, 44, 45, 46, 46, 47, 48, 51, 54, 55, 58, 61, 62, 65, 66, 67, 68, 69, 72, 73, 74, 75, 78, 81, 82, 85, 86, 89, 90, 93, 94, 95, 96, 99, 100, 101, 104, 105, 106, 109, 110, 113, 114, 115]
set_option maxRecDepth 20000 in
def pc_206 : List Nat := [0, 1, 2, 5, 6, 9]
set_option maxRecDepth 20000 in
def pc_207 : List Nat := [0, 1, 2, 3, 6, 9, 10, 13, 14, 17, 18, 21, 24, 25, 28, 29, 32, 33, 34]
set_option maxRecDepth 20000 in
def pc_208 : List Nat := [0, 1, 2, 3, 4, 7, 8, 9, 10, 13]
set_option maxRecDepth 20000 in
def pc_209 : List Nat := [0, 1, 2, 3, 4, 7, 10, 11, 14, 15, 18, 19, 22, 25, 26, 29, 30, 33, 36, 37, 38, 39, 40, 41]
set_option maxRecDepth 20000 in
def pc_210 : List Nat := [0, 1, 2, 5, 8, 9, 10, 11, 12, 15, 16, 17, 18, 19, 20, 23, 26, 27, 30, 31]
set_option maxRecDepth 20000 in
def pc_211 : List Nat := [0, 1, 2, 3, 4, 7, 10, 11, 14, 15, 16, 19, 22, 23, 26, 27, 30, 31, 34, 37, 38, 39, 40, 43, 46, 47, 48, 49, 50, 51, 53, 54, 57, 60, 61, 62, 63, 64, 65, 66, 68]
set_option maxRecDepth 20000 in
def pc_212 : List Nat := [0, 1, 2, 3, 4, 7, 10, 11, 12, 13, 16, 19, 20, 23, 24, 25, 26, 27, 30, 31, 32, 33, 34, 37, 38, 39, 40, 41, 44, 45, 48, 49, 52, 53, 56, 59, 60, 61, 62, 65, 66, 67, 68, 69, 70, 71, 72, 73, 75, 75, 77, 78, 81, 82, 83, 86, 87, 90, 93, 94, 95, 97, 98, 99, 102, 105, 106, 107, 108, 109, 111, 112, 113, 114, 117, 120, 121, 124, 125, 126]
set_option maxRecDepth 20000 in
def pc_213 : List Nat := [0, 1, 2, 3, 6, 9, 10, 13, 14, 17, 18, 21, 24, 25, 26, 27, 28, 31, 32, 33, 33, 34, 35, 38, 41, 42, 45, 48, 49, 50, 51, 52, 53, 56, 57, 58, 59, 62, 65]
set_option maxRecDepth 20000 in
def pc_214 : List Nat := [0, 1, 2, 5, 6, 7, 10, 11, 12, 12, 13, 14, 17, 20, 21, 24, 25, 26, 29, 32, 33, 34, 35, 38, 39, 42, 43, 44, 45, 46, 49, 50, 51, 52, 53, 56, 59]
set_option maxRecDepth 20000 in
def pc_215 : List Nat := [0, 1, 2, 3, 6, 9, 10, 13, 14, 15, 18, 21, 24, 27, 28, 31, 32, 35, 36, 39, 42, 43, 44, 45, 46, 47, 49, 49, 51, 52, 55, 56, 57, 58, 59, 62, 63, 66, 69, 70, 71, 73, 74, 75, 77, 78, 79, 80, 83, 84, 87, 88, 89, 90, 92, 93, 95, 96, 99, 102, 103, 106, 107, 108, 109, 110, 113, 116, 117, 118, 120, 121, 123, 124, 127, 128, 131, 133, 136, 139, 142, 145, 147, 148, 151, 154, 155]
set_option maxRecDepth 20000 in
def pc_216 : List Nat := [0, 1, 2, 3, 6, 9, 10, 11, 14, 17, 18, 21, 22, 25, 26, 27, 28, 31, 32, 33, 36, 37, 40, 41, 44, 45, 46, 46, 47, 50, 53, 54, 55, 58, 59, 60, 63, 64, 67, 70, 71, 72, 73, 74, 75, 78, 81, 82, 83, 84, 85, 86, 87, 90, 93, 94, 95, 96, 97, 98, 99, 100, 101, 102, 103, 104, 107, 110]
set_option maxRecDepth 20000 in
def pc_217 : List Nat := [0, 1, 2, 3, 6, 9, 10, 13, 14, 17, 18, 21, 24, 25, 26, 27, 28, 31, 32, 33, 36, 37, 38, 38, 39, 40, 43, 46, 47, 50, 51, 52, 55, 56, 57, 58, 59, 60, 63, 66, 69, 70, 71, 72, 72, 73, 76, 77, 80, 81, 84, 85, 88, 89, 90, 93, 94, 97, 98, 99, 100, 103, 106, 107, 110]
set_option maxRecDepth 20000 in
def pc_218 : List Nat := [0, 1, 2, 3, 6, 9, 10, 11, 12, 15, 18, 19]
set_option maxRecDepth 20000 in
def pc_219 : List Nat := [0, 1, 2, 3, 6, 9, 10, 13, 16, 17, 20, 21, 24, 25, 28, 31, 32, 33, 34, 37, 38, 41, 44, 45, 48, 49]
set_option maxRecDepth 20000 in
def pc_220 : List Nat := [0, 1, 2, 2, 3, 4, 7, 8, 11, 12, 13, 14, 15, 16, 17, 18, 21, 24, 25, 28, 29, 30, 31, 32, 33, 34, 37, 38, 39, 40, 43, 46, 47, 48, 49, 50, 53, 54, 57, 58, 59, 60, 61, 62, 63, 66, 69, 70, 71, 72, 73, 76, 77, 80, 81, 82, 83, 84, 85, 86, 89, 92, 93, 94, 95, 96, 99, 100, 103, 104, 105, 106, 107, 110, 111]
set_option maxRecDepth 20000 in
def pc_221 : List Nat := [0, 1, 2, 2, 3, 4, 7, 10, 11, 12, 13, 16, 19, 22, 23, 24, 25, 28, 29, 32, 33, 34, 35, 36, 37, 40, 43, 44]
set_option maxRecDepth 20000 in
def pc_222 : List Nat := [0, 1, 2, 5, 6, 7, 8, 11, 14, 15, 18, 19, 20, 23, 26, 29, 30, 31, 34, 35, 36, 39, 42, 45, 46, 47, 50, 53, 54, 57, 58]
set_option maxRecDepth 20000 in
def pc_223 : List Nat := [0, 1, 4, 5, 6, 7, 8, 11, 14, 15, 16, 17, 18, 21, 22, 23, 26, 28, 31, 32, 35, 36, 39, 40, 41, 42, 45, 47, 49, 52, 53, 56, 57, 58, 59, 60, 61, 62, 63, 64, 67, 68, 71, 72, 75, 76]
set_option maxRecDepth 20000 in
def pc_224 : List Nat := [0, 1, 4, 5, 8, 9, 10, 13, 14, 17, 19]
set_option maxRecDepth 20000 in
def pc_225 : List Nat := [0, 1, 4, 5, 6, 7, 8, 11, 14, 15, 18, 19]
set_option maxRecDepth 20000 in
def pc_226 : List Nat := [0, 1, 2, 4, 7, 10, 11, 12, 14, 15, 18, 21, 22, 23, 24, 25, 25, 26, 28, 31, 32, 35, 36, 37, 38, 41, 44, 45, 46, 49, 52, 53]
set_option maxRecDepth 20000 in
def pc_227 : List Nat := [0, 1, 4, 5, 6, 8, 9, 12, 13, 14, 16, 17, 19, 19, 21, 22, 25, 26, 29, 30, 31, 33, 34, 35, 36, 38, 41, 42, 45, 46, 47, 49, 50, 51, 52, 55, 57, 59, 60, 63, 64, 65, 67, 68, 69, 70, 72, 75, 76, 79, 80, 81, 83, 84, 85, 86, 89, 91, 93, 96, 99, 100, 102, 103, 104, 106, 107, 110, 111, 112, 114, 116, 118, 120, 121, 122, 125, 126, 128, 128, 130, 131, 134, 135, 138, 139, 140, 142, 143, 144, 145, 147, 148, 150, 151, 153, 155, 156, 159, 160, 163, 164, 166, 167, 168, 169, 172, 173, 175, 178, 179, 182, 183, 184, 187, 189, 192, 194, 196, 199, 201, 204, 206, 208, 210, 213, 215, 217, 220, 222, 225, 227, 229, 232, 235, 236, 239, 241, 243, 244, 245, 247, 248, 251, 252, 253, 256, 258, 261, 263, 266, 267, 270, 273, 274]
set_option maxRecDepth 20000 in
def pc_228 : List Nat := [0, 1, 2, 3, 5, 5, 7, 8, 9, 10, 13, 14, 17, 19, 20, 21, 24, 25, 28, 30, 31, 34, 35, 36, 39, 42, 43, 44, 45, 46, 47, 50, 51, 54, 55, 58, 59]
set_option maxRecDepth 20000 in
def pc_229 : List Nat := [0, 1, 4, 5, 6, 7, 8, 10, 10, 12, 13, 14, 15, 18, 19, 22, 24, 25, 26, 29, 30, 33, 35, 36, 39, 40, 41, 44, 47, 48]
set_option maxRecDepth 20000 in
def pc_230 : List Nat := [0, 1, 2, 4, 7, 10, 11, 12, 13, 14, 17, 20, 21, 22, 24, 25, 26, 29, 32, 33, 34, 36, 37, 40, 43, 44, 45, 46, 48, 49, 52, 55, 56, 59, 60]
set_option maxRecDepth 20000 in
def pc_231 : List Nat := [0, 1, 2, 2, 3, 4, 7, 8, 9, 10, 11, 12, 13, 16, 19, 20, 21, 24, 27, 28]
set_option maxRecDepth 20000 in
def pc_232 : List Nat := [0, 1, 2, 3, 6, 9, 10, 11, 12, 15, 16, 17, 18, 21, 22, 23, 24, 25, 26, 27, 30, 31, 32, 33, 34, 35, 36, 39, 40, 41, 42, 43, 44, 45, 47, 48, 51, 52, 53, 54, 57, 58, 59, 60, 61, 62, 63, 64, 66, 67, 70, 71, 72, 73, 74, 75, 78, 79, 80, 81, 82, 83, 84, 86, 87, 88, 91, 93, 95, 96, 99, 101, 103, 105, 107, 108, 111, 112, 113, 114, 117, 118, 119, 120, 121, 122, 123, 124, 125, 126, 129, 130, 133, 134, 137, 139, 141, 142, 145, 146, 147, 148, 150, 151, 152, 155, 157, 159, 161, 162, 163, 166, 168, 169, 171, 173, 174, 176, 179, 181, 183, 186, 188, 191, 193, 194, 195, 196, 197, 200, 201]
set_option maxRecDepth 20000 in
def pc_233 : List Nat := [0, 1, 2, 3, 4, 5, 6, 7, 8, 9]
set_option maxRecDepth 20000 in
def pc_234 : List Nat := [0, 2, 3, 4, 5, 6, 80, 81, 82, 83, 84, 85, 86, 87, 88, 90, 91, 93, 94, 95, 98, 99, 102, 104, 105, 106, 109, 110, 113, 115, 116, 117]
set_option maxRecDepth 20000 in
def pc_235 : List Nat := [0, 1, 2, 5, 6, 7, 8, 11, 12, 13, 14]
set_option maxRecDepth 20000 in
def pc_236 : List Nat := [0, 1, 4, 5, 8, 9, 10, 11, 14, 15, 18, 19, 20, 21, 22, 25, 26, 27, 30]
set_option maxRecDepth 20000 in
def pc_237 : List Nat := [0, 1, 4, 5, 6, 7, 8, 9, 10, 12, 13, 15, 16, 17, 18, 21, 24, 25, 26, 27, 30, 31, 33, 34, 37, 40, 41, 42, 45, 46, 48, 51, 53, 56, 57, 60, 61, 64, 65, 66, 69, 71, 72, 73, 74, 75, 78, 80, 81, 82, 83, 84, 87, 88, 89, 92, 94, 95, 96, 97, 98, 101, 103, 104, 105, 106, 107, 110, 111, 114, 115, 117, 119, 122, 123, 126, 127, 128, 129, 130, 131, 132, 134, 135, 138, 139, 142, 143, 146, 147]
set_option maxRecDepth 20000 in
def pc_238 : List Nat := [0, 1, 2, 5, 7, 10, 11]
set_option maxRecDepth 20000 in
def pc_239 : List Nat := [0, 1, 2, 2, 3, 5, 8, 9, 10, 11, 12, 14, 15, 16, 17, 20, 23, 24, 25, 26, 27, 28, 30, 31, 33, 34, 35, 36, 39, 42, 43, 44, 47, 50, 51]
set_option maxRecDepth 20000 in
def pc_240 : List Nat := [0, 1, 2, 4, 7, 10, 11, 12, 15, 18, 19, 20, 21, 22, 23, 24, 27, 30, 31, 32, 33, 34, 37, 38, 39, 42, 43]
set_option maxRecDepth 20000 in
def pc_241 : List Nat := [0, 1, 2, 3, 4, 7, 10, 11, 12, 13, 14, 14, 15, 17, 20, 21, 24, 25, 26, 27, 30, 33, 36, 37, 39, 40, 41, 42, 45, 48, 49, 50, 53, 56, 57]
set_option maxRecDepth 20000 in
def pc_242 : List Nat := [0, 1, 2, 3, 6, 9, 10, 11, 12, 14, 15, 16, 16, 17, 20, 22, 25, 26, 27, 28, 31, 34, 37, 40, 41, 44, 45, 48, 49, 50, 51, 54, 57, 58, 59, 60, 62, 63, 66, 69, 70, 73, 74]
set_option maxRecDepth 20000 in
def pc_243 : List Nat := [0, 1, 2, 5, 6, 7, 8, 11, 12, 13, 15, 18, 19, 22, 23, 26, 27, 28, 29, 31, 32, 35, 36, 39, 42, 43]
set_option maxRecDepth 20000 in
def pc_244 : List Nat := [0, 1, 4, 5, 6, 7, 8, 9, 10, 13, 14, 15, 16, 16, 17, 18, 21, 24, 25, 28, 30, 31, 32, 33, 34, 35, 36, 37, 38, 39, 42, 43, 44, 45, 46, 49, 51, 52, 53, 54, 55, 56, 57, 58, 59, 60, 63, 64, 65, 66, 69, 72]
set_option maxRecDepth 20000 in
def pc_245 : List Nat := [0, 1, 2, 2, 3, 4, 7, 10, 11, 14, 15, 16, 17, 18, 19, 20, 23, 24, 25, 26, 29, 30, 33, 34, 37, 38, 39, 40, 43, 46, 49, 50, 53, 54, 55, 56, 56, 57, 60, 61, 64, 65, 66, 67, 68, 69, 70, 73, 74, 75, 76, 79, 80, 83, 84, 87, 88, 89, 90, 93, 96, 99, 100, 103, 104, 105, 106, 107, 108, 109, 112, 113, 116, 117, 118, 119, 120, 121, 122, 125, 126, 129, 130]
set_option maxRecDepth 20000 in
def pc_246 : List Nat := [0, 1, 2, 5, 6, 7, 8, 11, 14, 15, 16, 17, 18, 21, 21, 22, 23, 26, 27, 28, 29, 30, 31, 32, 33, 34, 37, 40, 43, 46, 47, 48, 51, 51, 52, 54, 57, 58, 59, 60, 61, 63, 64, 65, 66, 69, 72, 75, 78, 79, 80, 81, 84, 87, 87, 88, 90, 93, 94, 95, 97, 98, 100, 101, 102, 103, 104, 107, 110, 113, 116]
set_option maxRecDepth 20000 in
def pc_247 : List Nat := [0, 1, 2, 5, 6, 7, 8, 11, 14, 15, 16, 17, 18, 21, 22, 23, 24, 27, 28, 29, 30, 32, 32, 34, 37, 38, 41, 42, 43, 45, 46, 47, 49, 50, 51, 54, 57, 58, 59, 62, 63, 64, 66, 67, 69, 71, 72, 73, 76, 79, 80, 81, 83, 84, 86, 88, 89, 90, 91, 94, 96, 99, 102, 103, 104, 107, 108, 109, 111, 112, 113, 116, 118]
set_option maxRecDepth 20000 in
def pc_248 : List Nat := [0, 1, 2, 3, 5, 5, 7, 10, 11, 12, 15, 16, 19, 20, 21, 24, 25, 26, 28, 29, 30, 31, 32, 33, 36, 39, 40, 43, 44, 47, 48, 49, 52, 53, 55, 58, 59, 60, 62, 63, 65, 66, 67, 68, 71, 74, 75, 78, 79, 82, 83, 85, 88, 89, 90, 92, 93, 95, 96, 97, 98, 99, 102, 105, 106, 109, 110, 112, 113, 115, 118, 119, 122, 123, 124, 125, 128, 129]
set_option maxRecDepth 20000 in
def pc_249 : List Nat := [0, 1, 4, 5, 6, 7, 8, 9, 10]
set_option maxRecDepth 20000 in
def pc_250 : List Nat := [0, 1, 2, 3, 6, 9, 10, 11, 12, 15, 16, 19, 20, 23, 26, 27]
set_option maxRecDepth 20000 in
def pc_251 : List Nat := [0, 1, 2, 3, 4, 5, 8, 11, 12, 13, 14, 15, 18, 21, 22]
set_option maxRecDepth 20000 in
def pc_252 : List Nat := [0, 1, 2, 3, 6, 9, 11, 12, 13, 14, 15, 16, 19, 20, 21, 22, 25, 28, 29, 30, 33, 34, 37, 40, 41, 44, 45]
set_option maxRecDepth 20000 in
def pc_253 : List Nat := [0, 1, 4, 6, 7, 8, 9, 10, 11, 12, 13, 14, 15]
set_option maxRecDepth 20000 in
def pc_254 : List Nat := [0, 1, 2, 3, 4, 5, 8, 11, 12, 13, 14, 15, 18, 19, 20, 23, 24]
set_option maxRecDepth 20000 in
def pc_255 : List Nat := [0, 1, 2, 5, 7, 8, 9, 10, 11, 12, 13, 14, 15, 16, 17]
set_option maxRecDepth 20000 in
def pc_256 : List Nat := [0, 1, 4, 5, 8, 9, 11, 12, 13, 14, 16, 18, 21, 24, 25, 26, 28, 30, 33, 36, 37]
set_option maxRecDepth 20000 in
def pc_257 : List Nat := [0, 1, 2, 3, 6, 9, 10, 13, 14, 15, 18, 19, 22, 23]
set_option maxRecDepth 20000 in
def pc_258 : List Nat := [0, 1, 2, 3, 6, 9, 12, 13, 16, 17, 18, 21, 22, 23, 26, 27]
set_option maxRecDepth 20000 in
def pc_259 : List Nat := [0, 1, 2, 3, 6, 9, 10, 11, 12, 13, 14, 17, 18, 19, 20, 23, 24, 27, 28, 31, 32, 35, 38, 39, 40, 41, 43, 43, 45, 46, 49, 50, 53, 55, 56, 57, 58, 60, 63, 64, 67, 70, 71, 72, 73, 76, 77, 78, 79, 82, 83, 84, 87, 88, 89, 92, 93, 94, 97, 98, 99, 102, 103, 104, 107, 108, 110, 110, 112, 113, 116, 119, 120, 123, 124, 127, 128, 129, 131, 132, 133, 135, 136, 137, 140, 142, 143, 144, 147, 148, 149, 152, 153, 156, 158, 159, 160, 161, 164, 165, 166, 169, 171, 172, 173, 176, 178, 179, 182, 183, 184, 187, 188, 189, 192, 194, 195, 196, 199, 200, 203, 205, 206, 207, 210, 211, 212, 215, 218, 221, 222]
set_option maxRecDepth 20000 in
def pc_260 : List Nat := [0, 1, 2, 3, 6, 9, 10, 11, 14, 15, 18, 19, 22, 23, 24, 27, 28, 31, 32, 33, 34, 35, 36, 39, 40, 41, 42, 43, 44, 45, 48, 49, 51, 52, 54, 55, 57, 59, 61, 62, 63, 64, 67, 69, 70, 71, 74, 76, 77]
set_option maxRecDepth 20000 in
def pc_261 : List Nat := [0, 1, 2, 3, 6, 9, 10, 11, 14, 17, 18, 21, 24, 25, 28, 29, 32, 33, 36, 39, 40, 41, 42, 43, 46, 47, 48, 49, 52, 54, 56, 59, 60, 61, 62, 65, 67, 70, 71, 72, 73, 75, 76, 78, 78, 80, 82, 85, 87, 88, 89, 90, 92, 95, 96, 97, 98, 100, 103, 106, 107, 110, 111, 112, 114, 117, 120, 122]
set_option maxRecDepth 20000 in
def pc_262 : List Nat := [0, 1, 2, 2, 3, 4, 7, 10, 11, 12, 13, 16, 19, 22]
set_option maxRecDepth 20000 in
def pc_263 : List Nat := [0, 1, 2, 3, 6, 9, 10, 11, 14, 17, 18, 21, 24, 25, 28, 29, 32, 33, 36, 39, 40, 41, 42, 43, 46, 47, 48, 49, 52, 54, 56, 59, 60, 61, 61, 62, 63, 64, 66, 69, 72, 75, 78, 80]
set_option maxRecDepth 20000 in
def pc_264 : List Nat := [0, 1, 2, 3, 6, 7, 8, 9, 10, 13, 15, 16, 18, 21, 22, 25, 27]
set_option maxRecDepth 20000 in
def pc_265 : List Nat := [0, 1, 2, 3, 6, 7, 8, 10, 11, 13, 13, 15, 16, 19, 20, 21, 22, 24, 26, 27, 30, 31, 32, 33, 35, 38, 41, 42, 43, 46, 49, 50]
set_option maxRecDepth 20000 in
def pc_266 : List Nat := [0, 1, 2, 3, 4, 7]
set_option maxRecDepth 20000 in
def pc_267 : List Nat := [0, 1, 2, 3, 6, 9, 10, 11, 14, 17, 18, 21, 24, 25, 28, 29, 32, 33, 36, 39, 40, 41, 42, 43, 46, 47, 48, 49, 50, 53]
set_option maxRecDepth 20000 in
def pc_268 : List Nat := [0, 1, 4, 5, 6, 7, 10, 11, 14, 15, 16, 17, 20, 21, 24, 26, 29, 30, 31, 32, 33, 34, 37, 39, 39, 41, 42, 45, 46, 47, 48, 51, 52, 53, 54, 57, 58, 60, 61, 63, 64, 66, 69, 72, 73, 74, 75, 77, 80, 83, 85, 86, 89, 92, 93]
set_option maxRecDepth 20000 in
def pc_269 : List Nat := [0, 1, 2, 3, 4, 7, 9, 11, 12, 13, 15, 16, 17, 18, 21, 24, 25, 26, 29, 30, 33, 36, 37, 38, 39, 40, 41, 44, 46, 48, 50, 53, 54, 55, 56, 58, 61, 64, 65, 66, 67, 69, 71, 72, 73, 74, 75, 78, 79, 82]
set_option maxRecDepth 20000 in
def pc_270 : List Nat := [0, 1, 2, 5, 8, 9, 12, 13, 16, 17, 20, 23, 24, 25, 26, 27, 30, 31, 32, 33, 34, 34, 35, 36, 39, 42, 43, 44, 45, 48, 51, 52, 53, 56, 57, 58, 61, 62, 63, 66, 69, 70, 71, 74, 77, 78, 79, 80, 83, 84, 87, 88, 91, 92, 95, 98, 99, 102, 103]
set_option maxRecDepth 20000 in
def pc_271 : List Nat := [0, 1, 2, 3, 4, 7, 8, 9, 10, 10, 11, 12, 13, 14, 17, 20, 21, 22, 23, 24, 27, 28, 31, 32, 33, 34, 35, 38, 41, 42, 43, 46, 49, 50]
set_option maxRecDepth 20000 in
def pc_272 : List Nat := [0, 1, 2, 5, 8, 9, 12, 13, 16, 17, 20, 23, 24, 27, 28, 29, 32]
set_option maxRecDepth 20000 in
def pc_273 : List Nat := [0, 1, 2, 5, 6, 9, 10, 11, 14, 15, 16, 17, 20, 21, 22, 25, 28, 29, 30, 33, 36, 38, 41, 42, 45, 46, 47, 50]
set_option maxRecDepth 20000 in
def pc_274 : List Nat := [0, 1, 2, 2, 3, 5, 8, 9, 12, 13, 14, 15, 18, 21, 22, 23, 23, 24, 25, 28, 31, 32, 33, 34, 37, 40, 41, 44, 45, 46, 47, 50, 51, 52, 53, 54, 57, 58, 59, 62, 65, 66, 67, 68, 69, 69, 70, 72, 75, 76, 79, 80, 81, 82, 85, 86, 87, 90, 91, 94, 95, 96, 99, 102, 103]
set_option maxRecDepth 20000 in
def pc_275 : List Nat := [0, 1, 2, 3, 4, 4, 5, 6, 9, 12, 13, 14, 15, 16, 19, 22, 23, 26, 27, 28, 29, 32, 35, 36]
set_option maxRecDepth 20000 in
def pc_276 : List Nat := [0, 2, 3, 3, 4, 5, 8, 9, 10, 10, 11, 12, 15, 18, 19, 21, 21, 23, 24, 27, 30, 31, 32, 33, 36, 37, 39, 40, 43, 44, 45, 46, 48, 49, 51, 54, 55, 56, 57, 59, 62, 65, 66, 68, 71, 74, 75, 76, 78, 79, 82, 85, 87, 88, 91, 94, 97, 100, 103, 106, 107]
set_option maxRecDepth 20000 in
def pc_277 : List Nat := [0, 1, 2, 3, 6, 9, 10, 11, 12, 13, 16, 17, 18, 21, 24, 25, 26, 27, 30, 33, 36, 37, 40, 43, 44, 45, 46, 47, 48, 51, 52]
set_option maxRecDepth 20000 in
def pc_278 : List Nat := [0, 1, 2, 5, 8, 9, 10, 11, 12, 13, 16, 17, 18, 19, 22, 25, 26, 29, 30, 33, 34, 37, 40, 41, 44, 45]
set_option maxRecDepth 20000 in
def pc_279 : List Nat := [0, 1, 2, 5, 6, 7, 8, 8, 9, 12, 15, 16, 19, 20, 21, 22, 25, 28, 29, 30, 30, 31, 32, 35, 38, 39, 42, 43, 44, 45, 48, 49, 52, 53, 54, 55, 56, 59, 60, 61, 62, 65, 66, 69, 70, 71, 72, 73, 76, 77, 78, 79, 82, 83, 86, 87, 88, 89, 90, 91, 92, 93, 96, 97, 100, 103, 106, 107]
set_option maxRecDepth 20000 in
def pc_280 : List Nat := [0, 1, 3, 3, 5, 6, 7, 8, 11, 14, 15, 18, 21, 22, 24, 25, 26, 27, 28, 29, 31, 34, 35, 36, 37, 38, 39, 40, 42, 45, 46, 47, 50, 53]
set_option maxRecDepth 20000 in
def pc_281 : List Nat := [0, 1, 2, 3, 4, 4, 5, 8, 11, 12, 13, 16, 19, 20, 21, 22, 23, 24, 25, 26, 29, 32, 33]
set_option maxRecDepth 20000 in
def pc_282 : List Nat := [0, 1, 2, 3, 6, 9, 10, 11, 14, 17, 18]
set_option maxRecDepth 20000 in
def pc_283 : List Nat := [0, 1, 2, 5, 6, 7, 8, 8, 9, 12, 15, 16, 17, 20, 23, 24, 25, 26, 27, 28, 29, 30, 33, 34, 35, 38, 41, 42]
set_option maxRecDepth 20000 in
def pc_284 : List Nat := [0, 1, 2, 3, 6, 9, 10, 11, 12, 13, 14, 16, 17, 19, 19, 21, 24, 27, 28, 31, 34, 35, 36, 38, 39, 40, 42, 44, 47, 50, 51, 52, 55, 57, 58, 61, 64, 65, 66, 67, 68, 69, 72, 73, 75, 77, 78, 81, 83, 84, 87, 89, 90, 93, 96, 97, 98, 100, 101, 102, 105, 107, 109, 112, 115, 117]
set_option maxRecDepth 20000 in
def pc_285 : List Nat := [0, 1, 2, 5, 8, 9, 12, 13, 16, 17, 20, 23, 24, 27, 28, 29, 32]
set_option maxRecDepth 20000 in
def pc_286 : List Nat := [0, 1, 2, 5, 6, 7, 10, 11, 12, 13, 14, 15, 18, 19, 22, 23, 24, 25, 28, 29, 30, 33, 34, 35, 36, 37, 38, 41, 44, 45, 48, 49]
set_option maxRecDepth 20000 in
def pc_287 : List Nat := [0, 1, 2, 2, 3, 4, 7, 8, 9, 12, 13, 16, 17, 18, 21, 24, 25]
set_option maxRecDepth 20000 in
def pc_288 : List Nat := [0, 1, 3, 4, 6, 6, 8, 9, 12, 14, 15, 18, 20, 23, 24, 26, 29, 31, 33, 34, 35, 38, 40, 43, 46, 48, 49, 50, 53, 54, 57, 58, 60, 62, 63, 64, 65, 67, 70, 73, 75, 76, 77, 80, 82, 85, 87, 88, 91, 92, 95, 96]
set_option maxRecDepth 20000 in
def pc_289 : List Nat := [0, 1, 2, 5, 8, 9, 12, 13, 16, 17, 20, 23, 24, 27, 28, 29, 30, 31, 34, 37]
set_option maxRecDepth 20000 in
def pc_290 : List Nat := [0, 1, 2, 5, 8, 9, 12, 13, 16, 17, 20, 23, 24, 25, 26, 27, 30, 31, 32, 33, 34, 37, 38, 39, 40, 41, 44, 45, 46, 47, 48, 49, 52, 53, 56, 57, 60, 61, 64, 65, 68, 71, 72, 73, 74, 75, 78, 79, 82, 83, 84, 85, 86, 89, 90, 93, 94, 96, 97, 99, 100, 102, 104, 107, 109, 112, 113, 115, 115, 117, 119, 122, 124, 127, 128, 129, 132, 134, 137, 139, 142, 143, 144, 145, 146, 148, 150, 153, 156, 159, 162, 164, 166, 169, 171, 174, 177, 180, 181, 183, 184, 187, 188, 191, 192, 195, 196, 199, 202, 203, 206, 208]
set_option maxRecDepth 20000 in
def pc_291 : List Nat := [0, 1, 2, 5, 6, 7, 8, 9, 10, 11, 11, 12, 13, 16, 17, 18, 21, 24, 25, 26, 29, 30, 33, 36, 37, 38, 39, 40, 43, 44, 47, 50, 51]
set_option maxRecDepth 20000 in
def pc_292 : List Nat := [0, 1, 2, 5, 6, 8, 9, 10, 12, 12, 14, 15, 18, 20, 21, 24, 27, 29, 30, 31, 33, 36, 37, 38, 39, 40, 42, 45, 46, 48, 50, 51, 54, 56, 59, 60, 61, 64, 67, 68]
set_option maxRecDepth 20000 in
def pc_293 : List Nat := [0, 1, 2, 5, 8, 9, 12, 13, 16, 17, 20, 23, 24, 25, 26, 27, 30, 31, 32, 33, 34, 36, 37, 39, 39, 41, 42, 45, 48, 49, 52, 53, 55, 56, 59, 60, 63, 66, 67, 69, 70, 72, 72, 74, 75, 78, 80, 81, 83, 84, 86, 89, 90, 92, 95, 98, 99, 102, 103, 104, 106, 109, 112, 114, 116, 119, 122, 124, 125, 127, 129, 132, 135, 136, 137, 138, 141, 142, 145, 146, 149, 150, 153, 156, 157, 160, 161]
set_option maxRecDepth 20000 in
def pc_294 : List Nat := [0, 1, 2, 5, 8, 9, 12, 13, 16, 17, 20, 23, 24, 25, 26, 29, 30, 31, 32, 33, 36, 37, 38, 39, 40]
set_option maxRecDepth 20000 in
def pc_295 : List Nat := [0, 3, 4, 7, 8, 11, 12, 15, 16, 17, 19, 20, 21, 23, 23, 25, 26, 27, 29, 30, 33, 34, 36, 37, 39, 40, 204, 205, 206, 208, 209, 210, 211, 212, 214, 215, 216, 217, 218, 220, 221, 222, 223, 224, 226, 227, 228, 229, 230, 232, 233, 234, 235, 236, 239, 241, 242, 243, 245, 246, 247, 248, 249, 251, 252, 253, 254, 255, 257, 258, 259, 260, 261, 263, 264, 265, 266, 267, 269, 270, 271, 272, 275, 277, 278, 281, 283, 286, 287, 288, 290, 293, 294, 295, 296, 298, 299, 300, 303, 304, 305, 308, 309, 310, 312, 313, 314, 315, 316, 318, 319, 320, 321, 322, 324, 325, 326, 327, 328, 330, 331, 332, 333, 334, 336, 337, 338, 339, 340, 343, 345, 346, 347, 349, 350, 351, 352, 353, 355, 356, 357, 358, 359, 361, 362, 363, 364, 365, 367, 368, 369, 370, 371, 373, 374, 375, 376, 379, 381, 382, 385, 387, 390, 391, 392, 394, 397, 398, 399, 400, 402, 403, 404, 407, 408, 409, 412, 413, 414, 416, 417, 418, 419, 420, 422, 423, 424, 425, 426, 429, 431, 432, 433, 435, 436, 437, 438, 439, 441, 442, 443, 444, 447, 449, 450, 453, 455, 458, 459, 460, 462, 465, 466, 467, 468, 470, 471, 472, 475, 476, 477, 480, 481, 482, 484, 485, 486, 487, 488, 490, 491, 492, 493, 494, 496, 497, 498, 499, 500, 502, 503, 504, 505, 506, 508, 509, 510, 511, 512, 514, 516, 517, 518, 519, 522, 524, 525, 526, 528, 529, 530, 531, 532, 534, 535, 536, 537, 538, 540, 541, 542, 543, 544, 546, 547, 548, 549, 550, 552, 553, 554, 555, 556, 558, 560, 561, 562, 565, 567, 568, 571, 573, 576, 577, 578, 580, 583, 584, 585, 586, 588, 589, 590, 593, 594, 595, 598, 599, 600, 603, 605, 606, 609, 611, 612, 615, 617, 620, 621, 622, 624, 627, 628, 629, 630, 632, 633, 634, 637, 638, 639, 642, 643, 646, 647, 650, 653, 654, 655, 656, 657, 659, 660, 661, 662, 663, 666, 668, 669, 670, 672, 673, 674, 675, 678, 680, 681, 684, 686, 689, 690, 691, 693, 696, 697, 698, 699, 701, 702, 703, 706, 707, 708, 711, 712, 713, 715, 716, 717, 718, 719, 721, 722, 723, 724, 725, 728, 730, 731, 732, 734, 735, 736, 737, 738, 740, 741, 742, 743, 746, 748, 749, 752, 754, 757, 758, 759, 761, 764, 765, 766, 767, 769, 770, 771, 774, 775, 776, 779, 780, 781, 783, 784, 785, 786, 787, 789, 790, 791, 792, 793, 795, 796, 797, 798, 799, 802, 804, 805, 806, 808, 809, 810, 811, 812, 814, 815, 816, 817, 818, 820, 821, 822, 823, 826, 828, 829, 832, 834, 837, 838, 839, 841, 844, 845, 846, 847, 849, 850, 851, 854, 855, 856, 859, 860, 861, 863, 864, 865, 866, 867, 869, 870, 871, 872, 873, 875, 876, 877, 878, 879, 882, 884, 885, 886, 888, 889, 890, 891, 892, 894, 895, 896, 897, 898, 900, 901, 902, 903, 906, 908, 909, 912, 914, 917, 918, 919, 921, 924, 925, 926, 927, 929, 930, 931, 934, 935, 936, 939, 940, 941, 943, 944, 945, 946, 949, 951, 952, 953, 955, 956, 957, 958, 961, 962, 965, 967, 970, 971, 972, 975, 976, 977, 979, 980, 981, 982, 983, 985, 986, 987, 988, 989, 992, 994, 995, 996, 998, 999, 1000, 1001, 1002, 1004, 1005, 1006, 1007, 1010, 1012, 1013, 1016, 1018, 1021, 1022, 1023, 1025, 1028, 1029, 1030, 1031, 1033, 1034, 1035, 1038, 1039, 1040, 1043, 1044, 1045, 1047, 1048, 1049, 1050, 1051, 1053, 1054, 1055, 1056, 1059, 1061, 1062, 1063, 1065, 1066, 1067, 1068, 1069, 1071, 1072, 1073, 1074, 1077, 1078, 1081, 1083, 1086, 1087, 1088, 1091, 1092, 1093, 1095, 1096, 1097, 1098, 1099, 1102, 1104, 1105, 1106, 1108, 1109, 1110, 1111, 1114, 1116, 1117, 1120, 1122, 1125, 1126, 1127, 1129, 1132, 1133, 1134, 1135, 1137, 1138, 1139, 1142, 1143, 1144, 1147, 1148, 1149, 1151, 1152, 1153, 1154, 1155, 1157, 1158, 1159, 1160, 1161, 1164, 1166, 1167, 1168, 1170, 1171, 1172, 1173, 1174, 1176, 1177, 1178, 1179, 1182, 1184, 1185, 1188, 1190, 1193, 1194, 1195, 1197, 1200, 1201, 1202, 1203, 1205, 1206, 1207, 1210, 1211, 1212, 1215, 1216, 1217, 1219, 1220, 1221, 1222, 1223, 1225, 1226, 1227, 1228, 1229, 1231, 1232, 1233, 1234, 1237, 1238, 1241, 1242, 1243, 1246, 1248, 1249, 1250, 1252, 1253, 1254, 1255, 1256, 1258, 1259, 1260, 1261, 1262, 1264, 1265, 1266, 1267, 1270, 1271, 1274, 1275, 1278, 1280, 1281, 1284, 1286, 1289, 1290, 1291, 1293, 1296, 1297, 1298, 1299, 1301, 1302, 1303, 1306, 1307, 1308, 1311, 1312, 1313, 1315, 1316, 1317, 1318, 1319, 1321, 1322, 1323, 1324, 1325, 1327, 1328, 1329, 1330, 1331, 1334, 1336, 1337, 1338, 1340, 1341, 1342, 1343, 1344, 1346, 1347, 1348, 1349, 1350, 1352, 1353, 1354, 1355, 1358, 1360, 1361, 1364, 1366, 1369, 1370, 1371, 1373, 1376, 1377, 1378, 1379, 1381, 1382, 1383, 1386, 1387, 1388, 1391, 1392, 1393, 1395, 1396, 1397, 1398, 1399, 1401, 1402, 1403, 1404, 1405, 1407, 1408, 1409, 1410, 1411, 1414, 1416, 1417, 1418, 1420, 1421, 1422, 1423, 1424, 1426, 1427, 1428, 1429, 1430, 1432, 1433, 1434, 1435, 1438, 1440, 1441, 1444, 1446, 1449, 1450, 1451, 1453, 1456, 1457, 1458, 1459, 1461, 1462, 1463, 1466, 1467, 1468, 1471, 1472, 1473, 1475, 1476, 1477, 1478, 1479, 1481, 1482, 1483, 1484, 1485, 1487, 1488, 1489, 1490, 1493, 1494, 1497, 1498, 1499, 1501, 1502, 1503, 1504, 1505, 1508, 1510, 1511, 1512, 1514, 1515, 1516, 1517, 1518, 1520, 1521, 1522, 1523, 1524, 1526, 1527, 1528, 1529, 1532, 1533, 1536, 1537, 1538, 1540, 1541, 1542, 1543, 1546, 1548, 1549, 1552, 1554, 1557, 1558, 1559, 1561, 1564, 1565, 1566, 1567, 1569, 1570, 1571, 1574, 1575, 1576, 1579, 1580, 1581, 1583, 1584, 1585, 1586, 1587, 1589, 1590, 1591, 1592, 1593, 1596, 1598, 1599, 1600, 1602, 1603, 1604, 1605, 1606, 1608, 1609, 1610, 1611, 1614, 1616, 1617, 1620, 1622, 1625, 1626, 1627, 1629, 1632, 1633, 1634, 1635, 1637, 1640, 1641, 1644, 1645, 1646, 1649, 1650, 1651, 1654, 1655, 1656, 1658, 1659, 1660, 1661, 1662, 1664, 1665, 1666, 1667, 1668, 1670, 1671, 1672, 1673, 1674, 1677, 1679, 1680, 1681, 1683, 1684, 1685, 1686, 1687, 1689, 1690, 1691, 1692, 1693, 1695, 1696, 1697, 1698, 1701, 1703, 1704, 1707, 1709, 1712, 1713, 1714, 1716, 1719, 1720, 1721, 1722, 1724, 1725, 1726, 1729, 1730, 1731, 1734, 1735, 1736, 1738, 1739, 1740, 1741, 1742, 1744, 1745, 1746, 1747, 1748, 1750, 1751, 1752, 1753, 1754, 1757, 1759, 1760, 1761, 1763, 1764, 1765, 1766, 1767, 1769, 1770, 1771, 1772, 1773, 1775, 1776, 1777, 1778, 1781, 1783, 1784, 1787, 1789, 1792, 1793, 1794, 1796, 1799, 1800, 1801, 1802, 1804, 1805, 1806, 1809, 1810, 1811, 1814, 1815, 1816, 1818, 1819, 1820, 1821, 1822, 1824, 1825, 1826, 1827, 1828, 1831, 1833, 1834, 1835, 1837, 1838, 1839, 1840, 1841, 1843, 1844, 1845, 1846, 1849, 1851, 1852, 1855, 1857, 1860, 1861, 1862, 1864, 1867, 1868, 1869, 1870, 1872, 1873, 1874, 1877, 1878, 1879, 1882, 1883, 1884, 1886, 1887, 1888, 1889, 1890, 1892, 1893, 1894, 1895, 1896, 1899, 1901, 1902, 1903, 1905, 1906, 1907, 1908, 1909, 1911, 1912, 1913, 1914, 1917, 1919, 1920, 1923, 1925, 1928, 1929, 1930, 1932, 1935, 1936, 1937, 1938, 1940, 1941, 1942, 1945, 1946, 1947, 1950, 1951, 1952, 1954, 1955, 1956, 1957, 1958, 1960, 1961, 1962, 1963, 1964, 1966, 1967, 1968, 1969, 1970, 1973, 1975, 1976, 1977, 1979, 1980, 1981, 1982, 1983, 1985, 1986, 1987, 1988, 1989, 1991, 1992, 1993, 1994, 1997, 1999, 2000, 2003, 2005, 2008, 2009, 2010, 2012, 2015, 2016, 2017, 2018, 2020, 2021, 2022, 2025, 2026, 2027, 2030, 2031, 2032, 2034, 2035, 2036, 2037, 2038, 2040, 2041, 2042, 2043, 2044, 2046, 2047, 2048, 2049, 2050, 2052, 2053, 2054, 2055, 2056, 2059, 2061, 2062, 2063, 2065, 2066, 2067, 2068, 2069, 2071, 2072, 2073, 2074, 2075, 2077, 2078, 2079, 2080, 2081, 2083, 2084, 2085, 2086, 2089, 2091, 2092, 2095, 2097, 2100, 2101, 2102, 2104, 2107, 2108, 2109, 2110, 2112, 2113, 2114, 2117, 2118, 2119, 2122, 2123, 2124, 2126, 2127, 2128, 2129, 2130, 2133, 2135, 2136, 2137, 2139, 2140, 2141, 2142, 2145, 2147, 2148, 2151, 2153, 2156, 2157, 2158, 2160, 2163, 2164, 2165, 2166, 2168, 2169, 2170, 2173, 2174, 2175, 2178, 2179, 2180, 2182, 2183, 2184, 2185, 2186, 2189, 2191, 2192, 2193, 2195, 2196, 2197, 2198, 2201, 2203, 2204, 2207, 2209, 2212, 2213, 2214, 2216, 2219, 2220, 2221, 2222, 2224, 2225, 2226, 2229, 2230, 2231, 2234, 2235, 2236, 2238, 2239, 2240, 2241, 2242, 2244, 2245, 2246, 2247, 2248, 2250, 2251, 2252, 2253, 2254, 2257, 2259, 2260, 2261, 2263, 2264, 2265, 2266, 2267, 2269, 2270, 2271, 2272, 2273, 2275, 2276, 2277, 2278, 2281, 2283, 2284, 2287, 2289, 2292, 2293, 2294, 2296, 2299, 2300, 2301, 2302, 2304, 2305, 2306, 2309, 2310, 2311, 2314, 2315, 2316, 2318, 2319, 2320, 2321, 2322, 2324, 2325, 2326, 2327, 2328, 2331, 2333, 2334, 2335, 2337, 2338, 2339, 2340, 2341, 2343, 2344, 2345, 2346, 2349, 2351, 2352, 2355, 2357, 2360, 2361, 2362, 2364, 2367, 2368, 2369, 2370, 2372, 2373, 2374, 2377, 2378, 2379, 2382, 2383, 2384, 2386, 2387, 2388, 2389, 2390, 2392, 2393, 2394, 2395, 2396, 2399, 2401, 2402, 2403, 2405, 2406, 2407, 2408, 2409, 2411, 2412, 2413, 2414, 2417, 2419, 2420, 2423, 2425, 2428, 2429, 2430, 2432, 2435, 2436, 2437, 2438, 2440, 2441, 2442, 2445, 2446, 2447, 2450, 2451, 2452, 2454, 2455, 2456, 2457, 2458, 2461, 2463, 2464, 2465, 2467, 2468, 2469, 2470, 2473, 2475, 2476, 2479, 2481, 2484, 2485, 2486, 2488, 2491, 2492, 2493, 2494, 2496, 2497, 2498, 2501, 2502, 2503, 2506, 2507, 2508, 2510, 2511, 2512, 2513, 2514, 2517, 2519, 2520, 2521, 2523, 2524, 2525, 2526, 2529, 2531, 2532, 2535, 2537, 2540, 2541, 2542, 2544, 2547, 2548, 2549, 2550, 2552, 2553, 2554, 2557, 2558, 2559, 2562, 2563, 2564, 2566, 2567, 2568, 2569, 2570, 2573, 2575, 2576, 2577, 2579, 2580, 2581, 2582, 2585, 2587, 2588, 2591, 2593, 2596, 2597, 2598, 2600, 2603, 2604, 2605, 2606, 2608, 2609, 2610, 2613, 2614, 2615, 2618, 2619, 2622, 2623, 2626, 2629, 2630, 2631, 2632, 2633, 2635, 2636, 2637, 2638, 2639, 2642, 2644, 2645, 2646, 2648, 2649, 2650, 2651, 2654, 2656, 2657, 2660, 2662, 2665, 2666, 2667, 2669, 2672, 2673, 2674, 2675, 2677, 2678, 2679, 2682, 2683, 2684, 2687, 2688, 2689, 2691, 2692, 2693, 2694, 2695, 2697, 2698, 2699, 2700, 2703, 2704, 2707, 2708, 2709, 2712, 2714, 2715, 2716, 2718, 2719, 2720, 2721, 2722, 2724, 2725, 2726, 2727, 2730, 2731, 2734, 2735, 2738, 2740, 2741, 2744, 2746, 2749, 2750, 2751, 2753, 2756, 2757, 2758, 2759, 2761, 2764, 2765, 2768, 2769, 2770, 2773, 2774, 2775, 2778, 2781, 2784, 2785]
set_option maxRecDepth 20000 in
def bz_pcs : List (List Nat) := [pc_0, pc_1, pc_2, pc_3, pc_4, pc_5, pc_6, pc_7, pc_8, pc_9, pc_10, pc_11, pc_12, pc_13, pc_14, pc_15, pc_16, pc_17, pc_18, pc_19, pc_20, pc_21, pc_22, pc_23, pc_24, pc_25, pc_26, pc_27, pc_28, pc_29, pc_30, pc_31, pc_32, pc_33, pc_34, pc_35, pc_36, pc_37, pc_38, pc_39, pc_40, pc_41, pc_42, pc_43, pc_44, pc_45, pc_46, pc_47, pc_48, pc_49, pc_50, pc_51, pc_52, pc_53, pc_54, pc_55, pc_56, pc_57, pc_58, pc_59, pc_60, pc_61, pc_62, pc_63, pc_64, pc_65, pc_66, pc_67, pc_68, pc_69, pc_70, pc_71, pc_72, pc_73, pc_74, pc_75, pc_76, pc_77, pc_78, pc_79, pc_80, pc_81, pc_82, pc_83, pc_84, pc_85, pc_86, pc_87, pc_88, pc_89, pc_90, pc_91, pc_92, pc_93, pc_94, pc_95, pc_96, pc_97, pc_98, pc_99, pc_100, pc_101, pc_102, pc_103, pc_104, pc_105, pc_106, pc_107, pc_108, pc_109, pc_110, pc_111, pc_112, pc_113, pc_114, pc_115, pc_116, pc_117, pc_118, pc_119, pc_120, pc_121, pc_122, pc_123, pc_124, pc_125, pc_126, pc_127, pc_128, pc_129, pc_130, pc_131, pc_132, pc_133, pc_134, pc_135, pc_136, pc_137, pc_138, pc_139, pc_140, pc_141, pc_142, pc_143, pc_144, pc_145, pc_146, pc_147, pc_148, pc_149, pc_150, pc_151, pc_152, pc_153, pc_154, pc_155, pc_156, pc_157, pc_158, pc_159, pc_160, pc_161, pc_162, pc_163, pc_164, pc_165, pc_166, pc_167, pc_168, pc_169, pc_170, pc_171, pc_172, pc_173, pc_174, pc_175, pc_176, pc_177, pc_178, pc_179, pc_180, pc_181, pc_182, pc_183, pc_184, pc_185, pc_186, pc_187, pc_188, pc_189, pc_190, pc_191, pc_192, pc_193, pc_194, pc_195, pc_196, pc_197, pc_198, pc_199, pc_200, pc_201, pc_202, pc_203, pc_204, pc_205, pc_206, pc_207, pc_208, pc_209, pc_210, pc_211, pc_212, pc_213, pc_214, pc_215, pc_216, pc_217, pc_218, pc_219, pc_220, pc_221, pc_222, pc_223, pc_224, pc_225, pc_226, pc_227, pc_228, pc_229, pc_230, pc_231, pc_232, pc_233, pc_234, pc_235, pc_236, pc_237, pc_238, pc_239, pc_240, pc_241, pc_242, pc_243, pc_244, pc_245, pc_246, pc_247, pc_248, pc_249, pc_250, pc_251, pc_252, pc_253, pc_254, pc_255, pc_256, pc_257, pc_258, pc_259, pc_260, pc_261, pc_262, pc_263, pc_264, pc_265, pc_266, pc_267, pc_268, pc_269, pc_270, pc_271, pc_272, pc_273, pc_274, pc_275, pc_276, pc_277, pc_278, pc_279, pc_280, pc_281, pc_282, pc_283, pc_284, pc_285, pc_286, pc_287, pc_288, pc_289, pc_290, pc_291, pc_292, pc_293, pc_294, pc_295]
/-! a field by its link: own class, entry, the class named there, tag * 100 + slot (50: the abstract class) -/
set_option maxRecDepth 20000 in
def bz_flk : List (Nat × Nat × String × Nat) := [(1, 9, "BarcodeEngine$Row", 500), (0, 164, "BarcodeEngine$Row", 500), (4, 45, "BarcodeEngine$Row", 500), (2, 62, "BarcodeEngine$Row", 500), (1, 15, "BarcodeEngine$Row", 501), (0, 111, "BarcodeEngine$Row", 501), (3, 83, "BarcodeEngine$Row", 501), (4, 52, "BarcodeEngine$Row", 502), (5, 36, "BarcodeEngine$Row", 502), (1, 28, "BarcodeEngine$Row", 502), (3, 9, "BarcodeEngine$Symbology", 5000), (2, 42, "BarcodeEngine$Ean8", 5000), (3, 15, "BarcodeEngine$Symbology", 5001), (2, 52, "BarcodeEngine$Ean8", 5001), (3, 18, "BarcodeEngine$Symbology", 5002), (2, 49, "BarcodeEngine$Ean8", 5002), (3, 21, "BarcodeEngine$Symbology", 5003), (6, 9, "BarcodeEngine$Tally", 800), (6, 15, "BarcodeEngine$Tally", 801), (6, 18, "BarcodeEngine$Tally", 802), (0, 281, "BarcodeEngine$Tally", 802), (6, 21, "BarcodeEngine$Tally", 803), (0, 290, "BarcodeEngine$Tally", 803), (6, 28, "BarcodeEngine$Tally", 804), (0, 278, "BarcodeEngine$Tally", 804), (6, 51, "BarcodeEngine$Tally", 805), (0, 371, "BarcodeEngine$Tally", 805), (7, 9, "BarcodeEngine$Sequence", 700), (2, 21, "BarcodeEngine$Sequence", 700), (4, 21, "BarcodeEngine$Sequence", 700), (5, 15, "BarcodeEngine$Sequence", 700), (6, 80, "BarcodeEngine$Sequence", 700), (3, 29, "BarcodeEngine$Sequence", 700), (0, 216, "BarcodeEngine$Sequence", 700), (7, 15, "BarcodeEngine$Sequence", 701), (6, 83, "BarcodeEngine$Sequence", 701), (0, 219, "BarcodeEngine$Sequence", 701), (7, 18, "BarcodeEngine$Sequence", 702), (9, 22, "BarcodeEngine$Sequence", 702), (2, 15, "BarcodeEngine$Sequence", 702), (4, 15, "BarcodeEngine$Sequence", 702), (6, 61, "BarcodeEngine$Sequence", 702), (5, 9, "BarcodeEngine$Sequence", 702), (3, 24, "BarcodeEngine$Sequence", 702), (0, 209, "BarcodeEngine$Sequence", 702), (9, 10, "BarcodeEngine$Reading", 400), (6, 55, "BarcodeEngine$Reading", 400), (3, 100, "BarcodeEngine$Reading", 400), (0, 204, "BarcodeEngine$Reading", 400), (9, 16, "BarcodeEngine$Reading", 401), (6, 74, "BarcodeEngine$Reading", 401), (2, 88, "BarcodeEngine$Reading", 401), (3, 53, "BarcodeEngine$Reading", 401), (0, 226, "BarcodeEngine$Reading", 401), (9, 19, "BarcodeEngine$Reading", 402), (6, 77, "BarcodeEngine$Reading", 402), (2, 94, "BarcodeEngine$Reading", 402), (3, 59, "BarcodeEngine$Reading", 402), (0, 229, "BarcodeEngine$Reading", 402), (3, 66, "BarcodeEngine$Reading", 403), (0, 368, "BarcodeEngine$Reading", 403), (9, 26, "BarcodeEngine$Reading", 404), (3, 93, "BarcodeEngine$Reading", 404), (0, 222, "BarcodeEngine$Reading", 404), (9, 30, "BarcodeEngine$Reading", 405), (3, 107, "BarcodeEngine$Reading", 405), (0, 250, "BarcodeEngine$Reading", 405), (9, 33, "BarcodeEngine$Reading", 406), (3, 110, "BarcodeEngine$Reading", 406), (0, 253, "BarcodeEngine$Reading", 406), (8, 10, "BarcodeEngine$Scan", 600), (0, 121, "BarcodeEngine$Scan", 600), (8, 19, "BarcodeEngine$Scan", 601), (6, 37, "BarcodeEngine$Scan", 601), (2, 82, "BarcodeEngine$Scan", 601), (3, 47, "BarcodeEngine$Scan", 601), (0, 364, "BarcodeEngine$Scan", 601), (0, 9, "BarcodeEngine", 900), (0, 69, "BarcodeEngine", 901), (0, 16, "BarcodeEngine", 902), (0, 22, "BarcodeEngine", 903), (0, 118, "BarcodeEngine", 904), (0, 37, "BarcodeEngine", 905), (0, 44, "BarcodeEngine", 906), (0, 48, "BarcodeEngine", 907), (0, 52, "BarcodeEngine", 908), (0, 55, "BarcodeEngine", 909), (0, 58, "BarcodeEngine", 910), (0, 64, "BarcodeEngine", 911), (15, 7, "BarcodeEngineModel", 1000), (15, 13, "BarcodeEngineModel", 1001), (15, 16, "BarcodeEngineModel", 1002), (15, 19, "BarcodeEngineModel", 1003), (15, 22, "BarcodeEngineModel", 1004), (15, 26, "BarcodeEngineModel", 1005), (15, 29, "BarcodeEngineModel", 1006), (15, 32, "BarcodeEngineModel", 1007), (15, 157, "BarcodeEngineModel", 1008), (15, 170, "BarcodeEngineModel", 1009), (15, 75, "BarcodeEngineModel", 1010), (15, 71, "BarcodeEngineModel", 1011), (15, 35, "BarcodeEngineModel", 1012), (15, 38, "BarcodeEngineModel", 1013), (15, 114, "BarcodeEngineModel", 1014), (15, 41, "BarcodeEngineModel", 1015), (15, 183, "BarcodeEngineModel", 1016), (15, 44, "BarcodeEngineModel", 1017), (15, 47, "BarcodeEngineModel", 1018), (15, 193, "BarcodeEngineModel", 1019), (15, 212, "BarcodeEngineModel", 1020), (15, 215, "BarcodeEngineModel", 1021), (15, 50, "BarcodeEngineModel", 1022), (15, 53, "BarcodeEngineModel", 1023), (15, 56, "BarcodeEngineModel", 1024), (15, 59, "BarcodeEngineModel", 1025), (15, 62, "BarcodeEngineModel", 1026), (15, 305, "BarcodeEngineModel", 1027), (15, 309, "BarcodeEngineModel", 1028), (15, 312, "BarcodeEngineModel", 1029), (15, 315, "BarcodeEngineModel", 1030), (15, 65, "BarcodeEngineModel", 1031), (15, 68, "BarcodeEngineModel", 1032), (12, 15, "java/lang/String", 2801), (12, 9, "java/lang/String", 2800)]
/-- the kinds of a class's fields: 0 int or boolean, 1 long, 2 reference -/
def bz_fks : List (List Nat) := [[], [0, 0, 0, 0], [0, 0, 0, 0], [0, 0, 0, 0], [2, 2, 2, 0, 0, 0, 0], [2, 0, 0], [2, 2], [2, 2, 0], [2, 2, 2, 2, 0, 0], [2, 0, 2, 2, 0, 2, 2, 2, 2, 2, 2, 2], [2, 2, 2, 2, 2, 2, 2, 2, 0, 0, 0, 0, 2, 2, 0, 2, 0, 2, 2, 0, 0, 0, 2, 2, 2, 2, 2, 1, 1, 1, 1, 2, 2]]
set_option maxRecDepth 20000 in
def bz_lgss : List (List Nat) := [[], [], [], [], [], [], [], [], [], [], [], [], [], [], [], [], [], [], [], [], [], [], [], [], [], [], [], [], [], [], [], [], [], [], [], [], [], [], [], [], [], [], [], [], [], [], [], [], [], [], [], [], [], [], [], [], [], [], [], [], [], [], [], [], [], [], [], [], [], [], [], [], [], [], [], [], [], [], [], [], [], [], [], [], [], [], [], [], [], [], [], [], [], [], [], [], [], [], [], [], [], [], [], [], [], [], [], [], [], [], [], [], [], [], [], [], [], [], [], [], [], [], [], [], [], [], [], [], [], [], [], [], [], [], [], [], [], [], [], [], [], [], [], [], [], [], [], [], [], [], [], [4, 6], [], [4], [], [4, 6, 9, 11, 13], [0, 2, 4], [], [], [], [], [], [], [], [], [], [], [], [], [], [], [], [], [], [], [], [], [], [], [], [], [], [], [], [], [], [], [], [], [0, 2, 4], [], [], [], [], [], [], [], [], [], [], [], [], [], [], [], [], [], [], [], [], [], [], [], [], [], [], [], [], [], [], [], [], [], [], [], [], [], [], [], [], [], [], [], [], [], [], [], [], [], [], [], [], [], [], [], [], [], [], [], [], [], [], [], [], [], [], [], [], [], [], [3, 5, 7], [], [], [], [], [], [], [], [], [], [], [], [], [], [], [], [], [], [], [], [], [], [], [], [], [], [], [], [], [], [], [], [], [], [], []]
def bz_ow (k : Nat) : String := bz_own.getD (bz_ocs.getD k 0) ""
def bz_y (k : Nat) : MethodName := bz_ys.getD k ⟨"", "", ""⟩
def bz_b (k : Nat) : ByteArray := bz_bs.getD k ⟨#[]⟩
def bz_ml (k : Nat) : Nat := bz_mls.getD k 0
def bz_rt (k : Nat) : Option FieldType := bz_rts.getD k none
def bz_hh0 (k : Nat) : List (Nat × Nat × Nat × Nat) := bz_hhs.getD k []
def bz_fr (k : Nat) : Nat := bz_frs.getD k 0
def bz_lo0 (k : Nat) : Nat := bz_los.getD k 0
def bz_pc (k i : Nat) : Nat := (bz_pcs.getD k []).getD i 0
def bz_lgs (k : Nat) : List Nat := bz_lgss.getD k []
def bz_W : List Cond := bz_T.filter goodWord
/-- a method's own word -/
def bz_hw (k : Nat) : Cond := match bz_hh0 k with
  | [] => .code (bz_y k) (bz_b k) (bz_ml k) (bz_rt k)
  | h :: hs => .codeWith (bz_y k) (bz_b k) (bz_ml k) (bz_rt k) (h :: hs)
/-- words at rising places: how many are passed over ahead of each -/
def bz_pick (gs : List Nat) (l : List Cond) : List Cond := match gs with
  | [] => []
  | g :: gs => match l.drop g with
    | [] => []
    | x :: xs => x :: bz_pick gs xs
theorem bz_pick_in {gs : List Nat} : ∀ {l : List Cond}, ∀ w ∈ bz_pick gs l, w ∈ l := by
  induction gs with
  | nil => intro l w h; cases h
  | cons g gs ih =>
    intro l w h
    unfold bz_pick at h
    split at h
    · cases h
    · rename_i x xs hd
      have hx : ∀ y ∈ x :: xs, y ∈ l := fun y hy => List.mem_of_mem_drop (by rw [hd]; exact hy)
      rcases List.mem_cons.mp h with h | h
      · exact hx w (by rw [h]; exact List.mem_cons_self)
      · exact hx w (List.mem_cons_of_mem _ (ih w h))
theorem bz_inT {α : Type} {xs : List α} {f : α → Cond} {gs : List Nat} (h : xs.map f = bz_pick gs bz_T) : ∀ x ∈ xs, f x ∈ bz_T := fun x hx => bz_pick_in (f x) (by rw [← h]; exact List.mem_map.mpr ⟨x, hx, rfl⟩)
def bz_KN : Nat := 295
set_option maxRecDepth 200000 in
theorem bz_hw_map : (List.range bz_KN).map bz_hw = bz_pick [120, 7, 27, 2, 24, 10, 11, 28, 30, 8, 95, 3, 3, 2, 75, 3, 3, 5, 5, 3, 2, 3, 3, 8, 3, 3, 2, 2, 2, 3, 3, 1, 5, 3, 5, 3, 9, 3, 4, 3, 3, 3, 3, 3, 3, 3, 2, 6, 1, 6, 1, 4, 5, 2, 2, 3, 3, 3, 3, 3, 3, 3, 6, 2, 3, 3, 4, 19, 2, 5, 3, 20, 2, 4, 3, 3, 5, 3, 2, 2, 4, 54, 5, 2, 4, 6, 3, 2, 2, 5, 3, 4, 5, 3, 2, 3, 5, 2, 3, 4, 2, 3, 2, 2, 2, 9, 3, 3, 4, 3, 3, 4, 2, 3, 3, 3, 3, 2, 3, 3, 3, 3, 4, 2, 3, 3, 3, 4, 4, 3, 3, 3, 2, 3, 3, 2, 3, 3, 2, 3, 2, 3, 2, 3, 2, 3, 2, 3, 2, 3, 4, 4, 3, 19, 3, 3, 2, 2, 3, 3, 3, 2, 3, 4, 3, 2, 3, 3, 3, 2, 3, 2, 2, 3, 2, 3, 3, 2, 3, 4, 3, 3, 3, 3, 4, 104, 3, 3, 2, 3, 3, 6, 5, 4, 4, 5, 3, 3, 3, 3, 2, 3, 4, 3, 2, 4, 3, 3, 3, 3, 3, 3, 3, 3, 3, 3, 5, 3, 3, 3, 3, 3, 3, 3, 2, 3, 3, 3, 3, 3, 3, 3, 3, 2, 2, 2, 3, 3, 2, 3, 3, 3, 3, 3, 3, 3, 3, 3, 3, 3, 3, 3, 3, 3, 3, 3, 3, 3, 3, 3, 3, 3, 3, 3, 3, 3, 3, 3, 3, 3, 3, 3, 3, 3, 3, 3, 3, 3, 3, 3, 3, 3, 4, 3, 3, 3, 3, 3, 3, 3, 3, 3, 3, 3, 3] bz_T := rfl
theorem bz_hw_in {k : Nat} (hk : k < bz_KN) : bz_hw k ∈ bz_T := bz_inT bz_hw_map k (List.mem_range.mpr hk)
/-- a field's name and descriptor by its number -/
def bz_fnd (p : Nat) : String × String × String × Bool := if p / 100 = 50 then TX1 (p % 100) else if p / 100 = 28 then (if p % 100 = 0 then ("java/lang/String", "value", "[B", true) else ("java/lang/String", "coder", "B", true)) else match vwCl[p / 100 - 1]? with
  | some q => q.2.1 (p % 100)
  | none => ("", "", "", false)
def bz_flw (e : Nat × Nat × String × Nat) : Cond := .fieldLink (bz_own.getD e.1 "") e.2.1 e.2.2.1 (bz_fnd e.2.2.2).2.1 (bz_fnd e.2.2.2).2.2.1
set_option maxRecDepth 200000 in
theorem bz_fl_map : bz_flk.map bz_flw = bz_pick [130, 0, 0, 0, 0, 0, 0, 0, 0, 0, 21, 0, 1, 0, 1, 0, 1, 38, 0, 0, 0, 0, 0, 0, 0, 0, 0, 19, 0, 0, 0, 0, 0, 0, 0, 0, 0, 0, 0, 0, 0, 0, 0, 0, 0, 24, 0, 0, 0, 0, 0, 0, 0, 0, 0, 0, 0, 0, 0, 0, 0, 0, 0, 0, 0, 0, 0, 0, 0, 0, 15, 0, 0, 0, 0, 0, 0, 5, 0, 0, 0, 0, 0, 0, 0, 0, 0, 0, 0, 919, 0, 0, 0, 0, 0, 0, 0, 0, 0, 0, 0, 0, 0, 0, 0, 0, 0, 0, 0, 0, 0, 0, 0, 0, 0, 0, 0, 0, 0, 0, 0, 0, 538, 0] bz_T := rfl
def bz_xs : List MethodName := [⟨"BarcodeEngine$Symbology", "beginsAt", "(LBarcodeEngine$Row;I)Z"⟩, ⟨"BarcodeEngine$Symbology", "addUnit", "(LBarcodeEngine$Row;ILBarcodeEngine$Sequence;)Z"⟩, ⟨"BarcodeEngine$Symbology", "endsAt", "(LBarcodeEngine$Row;I)Z"⟩, ⟨"BarcodeEngine$Symbology", "hasLength", "(I)Z"⟩, ⟨"BarcodeEngine$Symbology", "draw", "(LBarcodeEngine$Sequence;LBarcodeEngine$Row;)V"⟩]
def bz_x (x : Nat) : MethodName := if x < 1000 then bz_y x else bz_xs.getD (x - 1000) ⟨"", "", ""⟩
def bz_cn1 (t : Nat) : String := if t = 28 then "java/lang/String" else match vwCl[t - 1]? with
  | some q => q.1
  | none => ""
set_option maxRecDepth 20000 in
def bz_lk : List (Nat × Nat × Nat) := [(11, 135, 0), (0, 30, 2), (2, 3, 3), (0, 33, 4), (4, 3, 3), (0, 36, 5), (5, 3, 3), (11, 163, 10), (11, 258, 11), (0, 274, 12), (0, 84, 13), (0, 372, 14), (3, 70, 15), (3, 73, 16), (3, 96, 1000), (5, 28, 18), (5, 32, 19), (2, 34, 21), (2, 38, 19), (4, 34, 21), (4, 38, 19), (3, 103, 31), (2, 45, 24), (2, 59, 25), (2, 65, 26), (2, 69, 27), (2, 75, 28), (2, 79, 29), (2, 55, 30), (3, 113, 33), (5, 39, 29), (3, 117, 1001), (4, 48, 18), (4, 55, 29), (3, 121, 1002), (4, 42, 25), (3, 77, 38), (3, 86, 39), (3, 90, 40), (3, 124, 41), (3, 127, 42), (0, 376, 43), (6, 24, 44), (6, 66, 45), (7, 26, 46), (6, 32, 48), (3, 62, 50), (3, 33, 46), (3, 39, 51), (3, 43, 1003), (6, 43, 55), (6, 70, 56), (6, 47, 57), (6, 86, 58), (0, 297, 59), (0, 304, 60), (0, 309, 61), (7, 22, 29), (0, 354, 63), (0, 315, 64), (6, 90, 46), (11, 139, 65), (11, 7, 66), (0, 80, 67), (11, 148, 68), (11, 15, 69), (0, 87, 70), (0, 95, 71), (0, 284, 72), (0, 339, 73), (12, 633, 74), (12, 492, 75), (12, 505, 76), (12, 335, 77), (12, 637, 78), (13, 88, 79), (13, 92, 28), (13, 38, 46), (13, 95, 80), (0, 348, 29), (0, 98, 1003), (0, 102, 81), (0, 350, 83), (0, 108, 84), (0, 114, 1004), (5, 19, 86), (2, 9, 88), (2, 28, 86), (4, 9, 86), (4, 25, 90), (0, 124, 86), (0, 127, 91), (0, 359, 28), (0, 131, 92), (0, 181, 93), (11, 151, 94), (11, 22, 95), (0, 135, 97), (0, 139, 98), (0, 145, 99), (0, 149, 100), (0, 344, 101), (12, 495, 102), (13, 9, 103), (12, 1059, 104), (11, 155, 105), (11, 26, 106), (0, 152, 107), (0, 158, 108), (11, 159, 109), (11, 30, 110), (0, 169, 111), (11, 167, 112), (11, 34, 113), (0, 173, 114), (11, 171, 115), (11, 38, 116), (0, 176, 117), (11, 174, 118), (11, 41, 119), (11, 178, 120), (11, 45, 121), (0, 187, 122), (11, 181, 123), (11, 48, 124), (0, 190, 38), (11, 185, 125), (11, 52, 126), (0, 195, 127), (1, 19, 46), (1, 25, 28), (11, 188, 128), (11, 55, 129), (11, 192, 130), (11, 59, 131), (11, 195, 132), (11, 62, 133), (0, 200, 134), (11, 198, 135), (11, 65, 136), (0, 212, 137), (11, 202, 138), (11, 69, 139), (11, 205, 140), (11, 72, 141), (11, 208, 142), (11, 75, 143), (11, 212, 144), (11, 79, 145), (11, 215, 146), (11, 83, 147), (11, 218, 148), (11, 86, 149), (0, 232, 46), (0, 238, 51), (11, 221, 150), (11, 89, 151), (0, 242, 152), (0, 246, 153), (11, 224, 154), (11, 94, 155), (0, 258, 156), (11, 227, 157), (11, 97, 158), (0, 262, 50), (11, 230, 159), (11, 100, 160), (11, 234, 161), (11, 104, 162), (0, 266, 45), (11, 237, 163), (11, 107, 164), (11, 240, 165), (11, 110, 166), (0, 287, 58), (11, 243, 167), (11, 113, 168), (11, 246, 169), (11, 116, 170), (0, 293, 171), (11, 249, 172), (11, 119, 173), (11, 252, 174), (11, 122, 175), (0, 301, 176), (11, 255, 177), (11, 125, 178), (11, 262, 179), (11, 128, 180), (0, 318, 181), (11, 265, 182), (11, 131, 183), (11, 138, 184), (11, 145, 185), (11, 144, 186), (11, 150, 187), (15, 150, 188), (15, 80, 189), (15, 153, 190), (15, 143, 191), (15, 147, 192), (15, 100, 193), (15, 104, 194), (15, 86, 101), (15, 160, 195), (15, 128, 196), (15, 121, 197), (15, 117, 198), (15, 131, 199), (15, 124, 200), (15, 134, 201), (11, 154, 202), (11, 158, 203), (15, 167, 204), (11, 162, 205), (11, 166, 206), (11, 170, 207), (15, 173, 208), (11, 173, 209), (15, 176, 210), (11, 177, 211), (11, 180, 212), (11, 184, 213), (15, 179, 214), (11, 187, 215), (11, 191, 216), (11, 194, 217), (11, 197, 218), (15, 289, 219), (15, 286, 220), (15, 280, 221), (15, 268, 222), (15, 253, 223), (15, 228, 224), (15, 196, 225), (15, 225, 226), (15, 218, 227), (15, 231, 228), (15, 190, 229), (15, 256, 230), (15, 240, 231), (15, 237, 232), (15, 199, 233), (15, 202, 234), (15, 206, 235), (15, 209, 236), (15, 243, 237), (15, 234, 238), (15, 259, 239), (15, 246, 240), (15, 222, 241), (15, 262, 242), (15, 249, 243), (15, 271, 244), (15, 283, 245), (15, 274, 246), (15, 277, 247), (15, 265, 248), (15, 292, 249), (11, 201, 250), (11, 204, 251), (15, 295, 252), (15, 298, 253), (11, 207, 254), (15, 302, 255), (11, 211, 256), (11, 214, 257), (11, 223, 258), (15, 318, 259), (11, 226, 260), (11, 217, 261), (15, 321, 262), (11, 220, 263), (15, 324, 264), (15, 327, 265), (11, 229, 266), (15, 333, 267), (15, 330, 268), (11, 233, 269), (11, 236, 270), (15, 336, 271), (11, 239, 272), (15, 349, 273), (15, 339, 274), (15, 343, 275), (15, 346, 276), (11, 242, 277), (15, 362, 278), (15, 359, 279), (15, 352, 280), (15, 356, 281), (11, 245, 282), (15, 367, 283), (11, 248, 284), (11, 251, 285), (15, 376, 286), (15, 370, 287), (15, 373, 288), (11, 254, 289), (11, 257, 290), (11, 261, 291), (15, 379, 292), (11, 264, 293), (11, 268, 294)]
def bz_lkw (e : Nat × Nat × Nat) : Cond := .methodLink (bz_own.getD e.1 "") e.2.1 (bz_x e.2.2)
set_option maxRecDepth 200000 in
theorem bz_lk_map : bz_lk.map bz_lkw = bz_pick [118, 35, 2, 24, 2, 7, 2, 172, 3, 3, 3, 71, 6, 3, 3, 7, 3, 6, 3, 3, 0, 0, 6, 3, 3, 2, 2, 2, 3, 5, 5, 3, 11, 0, 0, 9, 0, 3, 3, 3, 3, 3, 3, 3, 3, 2, 8, 8, 0, 3, 11, 3, 3, 3, 3, 3, 3, 3, 0, 8, 3, 0, 3, 19, 3, 4, 3, 20, 3, 3, 3, 3, 5, 3, 3, 2, 2, 0, 0, 51, 0, 0, 3, 9, 4, 5, 6, 2, 5, 0, 2, 0, 4, 0, 3, 3, 2, 3, 8, 4, 3, 2, 3, 2, 2, 9, 2, 3, 4, 4, 2, 4, 3, 2, 3, 4, 2, 3, 3, 2, 4, 2, 4, 3, 2, 3, 0, 2, 4, 3, 0, 0, 2, 4, 2, 3, 2, 3, 3, 2, 3, 3, 2, 3, 2, 3, 2, 3, 2, 3, 2, 3, 2, 3, 0, 0, 3, 3, 19, 4, 2, 3, 2, 2, 3, 0, 2, 3, 2, 3, 1, 2, 3, 2, 3, 0, 2, 3, 2, 3, 2, 2, 3, 2, 3, 3, 2, 5, 2, 3, 4, 2, 5, 103, 3, 3, 3, 3, 2, 7, 4, 5, 4, 3, 0, 3, 3, 3, 3, 3, 2, 4, 3, 3, 3, 3, 3, 3, 3, 3, 3, 3, 3, 3, 3, 5, 3, 3, 3, 3, 3, 3, 3, 3, 2, 3, 3, 3, 3, 3, 3, 3, 3, 2, 2, 2, 3, 3, 2, 3, 3, 3, 3, 3, 3, 3, 3, 3, 3, 3, 3, 3, 3, 3, 3, 3, 3, 3, 3, 3, 3, 3, 3, 3, 3, 3, 3, 3, 3, 3, 3, 3, 3, 3, 3, 3, 3, 3, 3, 3, 3, 4, 3, 3, 3, 3, 3, 3, 3, 3, 3, 3, 3, 3] bz_T := rfl
theorem bz_lk_in : ∀ e ∈ bz_lk, bz_lkw e ∈ bz_W := fun e he => List.mem_filter.mpr ⟨bz_inT bz_lk_map e he, rfl⟩
set_option maxRecDepth 20000 in
def bz_lkn : List (Nat × Nat × Nat) := [(0, 15, 1), (0, 43, 6), (0, 63, 7), (0, 68, 8), (8, 9, 1), (8, 18, 9), (9, 9, 7)]
def bz_lknw (e : Nat × Nat × Nat) : Cond := .methodLinkNest (bz_own.getD e.1 "") e.2.1 (bz_x e.2.2) "BarcodeEngine"
set_option maxRecDepth 200000 in
theorem bz_lkn_map : bz_lkn.map bz_lknw = bz_pick [126, 78, 28, 30, 4, 3, 4] bz_T := rfl
theorem bz_lkn_in : ∀ e ∈ bz_lkn, bz_lknw e ∈ bz_T := bz_inT bz_lkn_map
set_option maxRecDepth 20000 in
def bz_sel : List (Nat × Nat × Nat) := [(1, 16, 16), (2, 16, 16), (3, 16, 16), (1, 40, 40), (2, 40, 40), (3, 40, 40), (1, 41, 41), (2, 41, 41), (3, 41, 41), (1, 42, 42), (2, 42, 42), (3, 42, 42), (9, 12, 12), (8, 44, 44), (8, 55, 55), (8, 56, 56), (8, 57, 57), (9, 59, 59), (9, 67, 67), (9, 70, 70), (9, 71, 71), (9, 81, 81), (9, 84, 84), (9, 91, 91), (9, 92, 92), (9, 93, 93), (9, 99, 99), (9, 114, 114), (9, 134, 134), (9, 152, 152), (10, 190, 190), (10, 192, 192), (10, 195, 195), (10, 196, 196), (10, 197, 197), (10, 198, 198), (10, 199, 199), (10, 201, 201), (10, 208, 208), (10, 210, 210), (10, 214, 214), (10, 219, 219), (10, 220, 220), (10, 221, 221), (10, 222, 222), (10, 223, 223), (10, 225, 225), (10, 226, 226), (10, 227, 227), (10, 228, 228), (10, 229, 229), (10, 230, 230), (10, 231, 231), (10, 232, 232), (10, 236, 236), (10, 237, 237), (10, 239, 239), (10, 240, 240), (10, 241, 241), (10, 242, 242), (10, 243, 243), (10, 244, 244), (10, 245, 245), (10, 246, 246), (10, 247, 247), (10, 248, 248), (10, 249, 249), (10, 252, 252), (10, 253, 253), (10, 255, 255), (10, 259, 259), (10, 262, 262), (10, 264, 264), (10, 265, 265), (10, 267, 267), (10, 268, 268), (10, 271, 271), (10, 273, 273), (10, 274, 274), (10, 275, 275), (10, 276, 276), (10, 278, 278), (10, 279, 279), (10, 280, 280), (10, 281, 281), (10, 283, 283), (10, 286, 286), (10, 287, 287), (10, 288, 288), (10, 292, 292), (9, 10, 10), (9, 11, 11), (1, 14, 14), (2, 14, 14), (3, 14, 14), (4, 15, 15), (1, 1000, 17), (5, 18, 18), (5, 19, 19), (2, 1000, 20), (5, 21, 21), (3, 1000, 22), (1, 31, 31), (2, 31, 23), (2, 24, 24), (5, 25, 25), (7, 29, 29), (2, 30, 30), (3, 31, 31), (1, 33, 32), (2, 33, 33), (3, 33, 33), (1, 1001, 34), (2, 1001, 24), (3, 1001, 35), (1, 1002, 36), (2, 1002, 30), (3, 1002, 37), (5, 38, 38), (4, 39, 39), (8, 43, 43), (7, 45, 45), (1, 48, 48), (2, 48, 47), (3, 48, 48), (1, 50, 50), (2, 50, 49), (3, 50, 50), (7, 51, 51), (1, 1003, 52), (2, 1003, 53), (3, 1003, 54), (8, 58, 58), (8, 60, 60), (7, 61, 61), (1, 63, 62), (2, 63, 63), (3, 63, 63), (8, 64, 64), (9, 66, 66), (9, 69, 69), (28, 73, 73), (28, 74, 74), (28, 75, 75), (28, 76, 76), (28, 77, 77), (1, 83, 82), (2, 83, 83), (3, 83, 83), (1, 1004, 85), (5, 86, 86), (2, 1004, 87), (3, 1004, 89), (9, 95, 95), (1, 97, 96), (2, 97, 97), (3, 97, 97), (7, 98, 98), (28, 101, 101), (9, 106, 106), (5, 107, 107), (5, 108, 108), (9, 110, 110), (5, 111, 111), (9, 113, 113), (9, 116, 116), (9, 119, 119), (9, 121, 121), (5, 122, 122), (9, 124, 124), (9, 126, 126), (5, 127, 127), (9, 129, 129), (9, 131, 131), (9, 133, 133), (9, 136, 136), (4, 137, 137), (9, 139, 139), (9, 141, 141), (9, 143, 143), (9, 145, 145), (9, 147, 147), (9, 149, 149), (9, 151, 151), (5, 153, 153), (9, 155, 155), (9, 158, 158), (9, 160, 160), (9, 162, 162), (9, 164, 164), (9, 166, 166), (9, 168, 168), (9, 170, 170), (9, 173, 173), (9, 175, 175), (8, 176, 176), (9, 178, 178), (9, 180, 180), (8, 181, 181), (9, 183, 183), (10, 185, 185), (10, 186, 186), (10, 187, 187), (10, 202, 202), (10, 203, 203), (10, 205, 205), (10, 206, 206), (10, 207, 207), (10, 209, 209), (10, 211, 211), (10, 212, 212), (10, 213, 213), (10, 215, 215), (10, 216, 216), (10, 217, 217), (10, 218, 218), (10, 250, 250), (10, 251, 251), (10, 254, 254), (10, 256, 256), (10, 257, 257), (10, 258, 258), (10, 260, 260), (10, 261, 261), (10, 263, 263), (10, 266, 266), (10, 269, 269), (10, 270, 270), (10, 272, 272), (10, 277, 277), (10, 282, 282), (10, 284, 284), (10, 285, 285), (10, 289, 289), (10, 290, 290), (10, 291, 291), (10, 293, 293), (10, 294, 294)]
def bz_selw (e : Nat × Nat × Nat) : Cond := .selects (bz_cn1 e.1) (bz_x e.2.1) (bz_y e.2.2)
set_option maxRecDepth 200000 in
theorem bz_sel_map : bz_sel.map bz_selw = bz_pick [0, 0, 0, 0, 0, 0, 0, 0, 0, 0, 0, 0, 0, 1, 0, 0, 0, 0, 0, 0, 0, 0, 0, 0, 0, 0, 0, 0, 0, 0, 0, 0, 0, 0, 0, 0, 0, 0, 0, 0, 0, 0, 0, 0, 0, 0, 0, 0, 0, 0, 0, 0, 0, 0, 0, 0, 0, 0, 0, 0, 0, 0, 0, 0, 0, 0, 0, 0, 0, 0, 0, 0, 0, 0, 0, 0, 0, 0, 0, 0, 0, 0, 0, 0, 0, 0, 0, 0, 0, 0, 280, 3, 80, 0, 0, 3, 8, 6, 3, 1, 4, 2, 7, 0, 4, 3, 12, 3, 1, 4, 3, 0, 4, 2, 0, 9, 2, 0, 5, 3, 15, 7, 7, 0, 2, 4, 0, 2, 4, 4, 2, 2, 16, 7, 3, 5, 2, 0, 3, 8, 28, 32, 3, 3, 5, 3, 70, 2, 0, 10, 4, 1, 8, 26, 4, 2, 0, 3, 11, 22, 3, 4, 7, 4, 6, 11, 10, 7, 4, 6, 7, 4, 8, 7, 6, 10, 3, 6, 6, 6, 6, 6, 6, 9, 23, 7, 9, 7, 6, 8, 6, 7, 6, 9, 6, 3, 6, 8, 3, 7, 109, 3, 3, 67, 3, 7, 3, 3, 7, 7, 3, 3, 7, 5, 3, 3, 122, 3, 11, 7, 3, 3, 7, 3, 7, 11, 11, 3, 7, 19, 20, 7, 3, 15, 3, 3, 7, 3] bz_T := rfl
theorem bz_sel_in : ∀ e ∈ bz_sel, bz_selw e ∈ bz_W := fun e he => List.mem_filter.mpr ⟨bz_inT bz_sel_map e he, rfl⟩
set_option maxRecDepth 20000 in
def bz_same : List (Nat) := [14, 1000, 31, 33, 1001, 1002, 48, 50, 1003, 63, 83, 1004, 97, 16, 40, 41, 42]
def bz_samew (e : Nat) : Cond := .sameMethod (bz_x e).cls (bz_x e).cls (bz_x e).name (bz_x e).desc
set_option maxRecDepth 200000 in
theorem bz_same_map : bz_same.map bz_samew = bz_pick [455, 14, 28, 33, 9, 13, 45, 8, 13, 40, 167, 14, 47, 912, 0, 0, 0] bz_T := rfl
theorem bz_same_in : ∀ e ∈ bz_same, bz_samew e ∈ bz_W := fun e he => List.mem_filter.mpr ⟨bz_inT bz_same_map e he, rfl⟩
set_option maxRecDepth 20000 in
def bz_decl : List (Nat) := [1000, 1001, 1002, 1003, 1004]
def bz_declw (e : Nat) : Cond := .declares (bz_x e)
set_option maxRecDepth 200000 in
theorem bz_decl_map : bz_decl.map bz_declw = bz_pick [469, 72, 13, 68, 223] bz_T := rfl
theorem bz_decl_in : ∀ e ∈ bz_decl, bz_declw e ∈ bz_T := bz_inT bz_decl_map
set_option maxRecDepth 20000 in
def bz_stat : List (Nat) := [13, 26, 27, 28, 46, 65, 68, 72, 78, 79, 80, 88, 90, 94, 100, 102, 103, 104, 105, 109, 112, 115, 117, 118, 120, 123, 125, 128, 130, 132, 135, 138, 140, 142, 144, 146, 148, 150, 154, 156, 157, 159, 161, 163, 165, 167, 169, 171, 172, 174, 177, 179, 182, 188, 189, 191, 193, 194, 200, 204, 224, 233, 234, 235, 238]
def bz_statw (e : Nat) : Cond := .static (bz_y e)
set_option maxRecDepth 200000 in
theorem bz_stat_map : bz_stat.map bz_statw = bz_pick [382, 130, 2, 2, 79, 80, 27, 33, 25, 2, 4, 85, 9, 17, 24, 6, 2, 2, 9, 16, 11, 11, 6, 3, 7, 11, 7, 13, 7, 6, 10, 10, 6, 6, 6, 6, 6, 8, 32, 6, 2, 7, 6, 8, 6, 7, 6, 6, 2, 6, 10, 8, 11, 124, 3, 10, 10, 4, 24, 15, 81, 34, 2, 2, 10] bz_T := rfl
theorem bz_stat_in : ∀ e ∈ bz_stat, bz_statw e ∈ bz_W := fun e he => List.mem_filter.mpr ⟨bz_inT bz_stat_map e he, rfl⟩
set_option maxRecDepth 20000 in
def bz_inst : List (Nat) := [0, 1, 2, 3, 4, 5, 6, 7, 8, 9, 10, 11, 12, 14, 15, 16, 17, 18, 19, 20, 21, 22, 31, 23, 24, 25, 29, 30, 33, 32, 34, 35, 36, 37, 38, 39, 40, 41, 42, 43, 44, 45, 48, 47, 50, 49, 51, 52, 53, 54, 55, 56, 57, 58, 59, 60, 61, 63, 62, 64, 66, 67, 69, 70, 71, 73, 74, 75, 76, 77, 81, 83, 82, 84, 85, 86, 87, 89, 91, 92, 93, 95, 97, 96, 98, 99, 101, 106, 107, 108, 110, 111, 113, 114, 116, 119, 121, 122, 124, 126, 127, 129, 131, 133, 134, 136, 137, 139, 141, 143, 145, 147, 149, 151, 152, 153, 155, 158, 160, 162, 164, 166, 168, 170, 173, 175, 176, 178, 180, 181, 183, 184, 185, 186, 187, 190, 192, 195, 196, 197, 198, 199, 201, 202, 203, 205, 206, 207, 208, 209, 210, 211, 212, 213, 214, 215, 216, 217, 218, 219, 220, 221, 222, 223, 225, 226, 227, 228, 229, 230, 231, 232, 236, 237, 239, 240, 241, 242, 243, 244, 245, 246, 247, 248, 249, 250, 251, 252, 253, 254, 255, 256, 257, 258, 259, 260, 261, 262, 263, 264, 265, 266, 267, 268, 269, 270, 271, 272, 273, 274, 275, 276, 277, 278, 279, 280, 281, 282, 283, 284, 285, 286, 287, 288, 289, 290, 291, 292, 293, 294]
def bz_instw (e : Nat) : Cond := .instanceMethod (bz_y e)
set_option maxRecDepth 200000 in
theorem bz_inst_map : bz_inst.map bz_instw = bz_pick [119, 7, 27, 2, 24, 10, 11, 28, 30, 8, 94, 3, 4, 74, 6, 4, 5, 4, 3, 3, 2, 4, 4, 3, 2, 3, 12, 3, 5, 2, 9, 3, 9, 3, 3, 3, 4, 3, 3, 2, 4, 2, 6, 3, 4, 3, 5, 6, 2, 2, 3, 3, 3, 2, 4, 2, 3, 4, 2, 5, 8, 20, 7, 4, 20, 6, 3, 3, 5, 3, 66, 2, 2, 7, 6, 2, 3, 8, 8, 5, 3, 5, 3, 2, 5, 5, 5, 22, 3, 4, 7, 4, 6, 4, 6, 10, 7, 4, 6, 7, 4, 8, 7, 6, 4, 5, 3, 6, 6, 6, 6, 6, 6, 9, 4, 18, 7, 9, 7, 6, 8, 6, 7, 6, 9, 6, 3, 6, 8, 3, 7, 5, 103, 3, 3, 11, 12, 15, 3, 3, 3, 3, 6, 3, 3, 7, 3, 3, 4, 2, 4, 2, 3, 3, 4, 2, 5, 3, 3, 4, 3, 3, 3, 3, 6, 3, 3, 3, 3, 3, 3, 3, 12, 3, 6, 3, 3, 3, 3, 3, 3, 3, 3, 3, 3, 2, 3, 4, 3, 2, 4, 2, 3, 3, 4, 2, 3, 4, 2, 4, 3, 2, 4, 3, 2, 3, 4, 2, 4, 3, 3, 3, 2, 4, 3, 3, 3, 3, 4, 2, 3, 4, 3, 3, 2, 3, 3, 4, 2, 3] bz_T := rfl
theorem bz_inst_in : ∀ e ∈ bz_inst, bz_instw e ∈ bz_W := fun e he => List.mem_filter.mpr ⟨bz_inT bz_inst_map e he, rfl⟩
set_option maxRecDepth 20000 in
def bz_ini : List (String) := ["BarcodeEngineLaw", "BarcodeEngine", "BarcodeEngine$Row", "BarcodeEngine$Symbology", "BarcodeEngine$Ean8", "BarcodeEngine$Interleaved", "BarcodeEngine$Codabar", "BarcodeEngine$Tally", "BarcodeEngine$Sequence", "BarcodeEngine$Scan", "BarcodeEngine$Reading", "BarcodeEngineModel", "java/lang/IllegalStateException", "java/lang/IndexOutOfBoundsException", "java/lang/IllegalArgumentException", "java/lang/String", "java/lang/StringLatin1", "java/lang/Math", "jdk/internal/util/Preconditions", "java/util/NoSuchElementException"]
def bz_iniw (e : String) : Cond := .initialized e
set_option maxRecDepth 200000 in
theorem bz_ini_map : bz_ini.map bz_iniw = bz_pick [91, 0, 0, 0, 0, 0, 0, 0, 0, 0, 0, 0, 3, 0, 0, 0, 0, 0, 1, 1] bz_T := rfl
theorem bz_ini_in : ∀ e ∈ bz_ini, bz_iniw e ∈ bz_W := fun e he => List.mem_filter.mpr ⟨bz_inT bz_ini_map e he, rfl⟩
set_option maxRecDepth 20000 in
def bz_cl0 : List (Nat × Nat × String) := [(11, 8, "BarcodeEngine"), (0, 13, "BarcodeEngine$Row"), (0, 20, "BarcodeEngine$Scan"), (0, 26, "BarcodeEngine$Symbology"), (0, 28, "BarcodeEngine$Ean8"), (0, 31, "BarcodeEngine$Interleaved"), (0, 34, "BarcodeEngine$Codabar"), (0, 41, "BarcodeEngine$Tally"), (0, 61, "BarcodeEngine$Sequence"), (8, 7, "BarcodeEngine$Row"), (8, 16, "BarcodeEngine$Reading"), (9, 7, "BarcodeEngine$Sequence"), (0, 324, "java/lang/IndexOutOfBoundsException"), (11, 13, "java/lang/IllegalStateException"), (0, 73, "java/lang/IllegalStateException"), (11, 18, "java/lang/IndexOutOfBoundsException"), (11, 20, "java/lang/IllegalArgumentException"), (0, 90, "java/lang/IllegalArgumentException"), (11, 92, "java/util/NoSuchElementException"), (0, 269, "java/util/NoSuchElementException"), (11, 136, "BarcodeEngineModel")]
def bz_cl0w (e : Nat × Nat × String) : Cond := .classLink (bz_own.getD e.1 "") e.2.1 e.2.2
set_option maxRecDepth 200000 in
theorem bz_cl0_map : bz_cl0.map bz_cl0w = bz_pick [116, 7, 23, 1, 1, 27, 10, 10, 29, 36, 1, 6, 105, 297, 4, 22, 0, 8, 394, 8, 132] bz_T := rfl
theorem bz_cl0_in : ∀ e ∈ bz_cl0, bz_cl0w e ∈ bz_W := fun e he => List.mem_filter.mpr ⟨bz_inT bz_cl0_map e he, rfl⟩
def bz_ns0 (c : Nat) : Nat := [0, 4, 4, 4, 7, 3, 2, 3, 6, 12, 33].getD c 0
set_option maxRecDepth 20000 in
def bz_ia : List (Nat) := [9, 5, 2, 3, 1, 8, 7, 6, 4, 10]
def bz_iaw (e : Nat) : Cond := .instantiable (bz_cn1 e) (bz_ns0 e)
set_option maxRecDepth 200000 in
theorem bz_ia_map : bz_ia.map bz_iaw = bz_pick [117, 7, 27, 27, 10, 11, 28, 30, 8, 984] bz_T := rfl
theorem bz_ia_in : ∀ e ∈ bz_ia, bz_iaw e ∈ bz_W := fun e he => List.mem_filter.mpr ⟨bz_inT bz_ia_map e he, rfl⟩
set_option maxRecDepth 20000 in
def bz_ao : List (String) := ["BarcodeEngine$Scan", "BarcodeEngine$Symbology", "BarcodeEngine$Tally", "BarcodeEngine$Reading"]
def bz_aow (e : String) : Cond := .arrayOver (.object e)
set_option maxRecDepth 200000 in
theorem bz_ao_map : bz_ao.map bz_aow = bz_pick [149, 1, 51, 68] bz_T := rfl
theorem bz_ao_in : ∀ e ∈ bz_ao, bz_aow e ∈ bz_T := bz_inT bz_ao_map
set_option maxRecDepth 20000 in
def bz_acl : List (FieldType) := [.int, .boolean, .byte, .long]
def bz_aclw (e : FieldType) : Cond := .arrayClass e
set_option maxRecDepth 200000 in
theorem bz_acl_map : bz_acl.map bz_aclw = bz_pick [147, 115, 188, 1356] bz_T := rfl
theorem bz_acl_in : ∀ e ∈ bz_acl, bz_aclw e ∈ bz_W := fun e he => List.mem_filter.mpr ⟨bz_inT bz_acl_map e he, rfl⟩
set_option maxRecDepth 20000 in
def bz_cas : List (String × String) := [("java/lang/IndexOutOfBoundsException", "java/lang/IndexOutOfBoundsException"), ("java/lang/IllegalStateException", "java/lang/IllegalStateException"), ("java/lang/IllegalArgumentException", "java/lang/IllegalArgumentException"), ("java/util/NoSuchElementException", "java/util/NoSuchElementException"), ("BarcodeEngine$Ean8", "BarcodeEngine$Symbology"), ("BarcodeEngine$Interleaved", "BarcodeEngine$Symbology"), ("BarcodeEngine$Codabar", "BarcodeEngine$Symbology")]
def bz_casw (e : String × String) : Cond := .castable e.1 e.2
set_option maxRecDepth 200000 in
theorem bz_cas_map : bz_cas.map bz_casw = bz_pick [386, 302, 32, 403, 704, 0, 0] bz_T := rfl
theorem bz_cas_in : ∀ e ∈ bz_cas, bz_casw e ∈ bz_T := bz_inT bz_cas_map
set_option maxRecDepth 20000 in
def bz_ki : List (Nat × Nat × Int32) := [(0, 358, 1103515245), (15, 164, 1103515245)]
def bz_kiw (e : Nat × Nat × Int32) : Cond := .constant (bz_own.getD e.1 "") e.2.1 e.2.2
set_option maxRecDepth 200000 in
theorem bz_ki_map : bz_ki.map bz_kiw = bz_pick [879, 558] bz_T := rfl
theorem bz_ki_in : ∀ e ∈ bz_ki, bz_kiw e ∈ bz_W := fun e he => List.mem_filter.mpr ⟨bz_inT bz_ki_map e he, rfl⟩
set_option maxRecDepth 20000 in
def bz_kl : List (Nat × Nat × Int64) := [(0, 256, 100), (15, 78, 2), (15, 137, 4), (15, 139, 40), (15, 141, (-3)), (15, 110, 3), (15, 108, 14), (15, 112, 16), (15, 96, 48), (15, 98, 57), (15, 92, 65), (15, 94, 68), (15, 165, 10000), (15, 186, (-100)), (15, 188, 100), (15, 365, 127)]
def bz_klw (e : Nat × Nat × Int64) : Cond := .constantLong (bz_own.getD e.1 "") e.2.1 e.2.2
set_option maxRecDepth 200000 in
theorem bz_kl_map : bz_kl.map bz_klw = bz_pick [1144, 233, 7, 0, 0, 0, 3, 0, 4, 0, 3, 0, 44, 44, 0, 259] bz_T := rfl
theorem bz_kl_in : ∀ e ∈ bz_kl, bz_klw e ∈ bz_W := fun e he => List.mem_filter.mpr ⟨bz_inT bz_kl_map e he, rfl⟩
set_option maxRecDepth 20000 in
def bz_sf : List (String) := ["startStep", "stopStep", "unitStep"]
def bz_sfw (e : String) : Cond := .sameField "BarcodeEngine$Ean8" "BarcodeEngine$Symbology" e "I"
set_option maxRecDepth 200000 in
theorem bz_sf_map : bz_sf.map bz_sfw = bz_pick [163, 2, 2] bz_T := rfl
theorem bz_sf_in : ∀ e ∈ bz_sf, bz_sfw e ∈ bz_W := fun e he => List.mem_filter.mpr ⟨bz_inT bz_sf_map e he, rfl⟩
set_option maxRecDepth 20000 in
def bz_lay : List (Nat × Nat) := [(5, 0), (5, 1), (5, 2), (2, 0), (2, 1), (2, 2), (2, 3), (3, 0), (3, 1), (3, 2), (3, 3), (1, 0), (1, 1), (1, 2), (1, 3), (8, 0), (8, 1), (8, 2), (8, 3), (8, 4), (8, 5), (7, 0), (7, 1), (7, 2), (4, 0), (4, 1), (4, 2), (4, 3), (4, 4), (4, 5), (4, 6), (6, 0), (6, 1), (9, 0), (9, 1), (9, 2), (9, 3), (9, 4), (9, 5), (9, 6), (9, 7), (9, 8), (9, 9), (9, 10), (9, 11), (10, 0), (10, 1), (10, 2), (10, 3), (10, 4), (10, 5), (10, 6), (10, 7), (10, 8), (10, 9), (10, 10), (10, 11), (10, 12), (10, 13), (10, 14), (10, 15), (10, 16), (10, 17), (10, 18), (10, 19), (10, 20), (10, 21), (10, 22), (10, 23), (10, 24), (10, 25), (10, 26), (10, 27), (10, 28), (10, 29), (10, 30), (10, 31), (10, 32)]
def bz_layw (e : Nat × Nat) : Cond := match vwCl[e.1 - 1]? with
  | some q => u_lay q.1 q.2.1 e.2
  | none => .arrayClass .int
set_option maxRecDepth 200000 in
theorem bz_lay_map : bz_lay.map bz_layw = bz_pick [140, 1, 1, 26, 1, 1, 1, 8, 0, 0, 0, 7, 0, 0, 0, 18, 1, 1, 1, 1, 1, 26, 1, 1, 44, 1, 1, 1, 1, 1, 1, 9, 1, 14, 1, 1, 1, 1, 1, 1, 1, 1, 1, 1, 1, 929, 1, 1, 1, 1, 1, 1, 1, 1, 1, 1, 1, 1, 1, 1, 1, 1, 1, 1, 1, 1, 1, 1, 1, 1, 1, 1, 1, 1, 1, 1, 1, 1] bz_T := rfl
theorem bz_lay_in : ∀ e ∈ bz_lay, bz_layw e ∈ bz_T := bz_inT bz_lay_map
theorem bz_sg_5_25 : Cond.fieldLinkNest "BarcodeEngine$Codabar" 25 "BarcodeEngine" "CODABAR_PATTERNS" "[I" "BarcodeEngine" ∈ bz_T := List.mem_of_getElem? (i := 474) (by decide +kernel)
theorem bz_sg_4_31 : Cond.fieldLinkNest "BarcodeEngine$Interleaved" 31 "BarcodeEngine" "INTERLEAVED_PATTERNS" "[I" "BarcodeEngine" ∈ bz_T := List.mem_of_getElem? (i := 551) (by decide +kernel)
theorem bz_sg_12_38 : Cond.fieldLink "java/lang/String" 38 "java/lang/String" "COMPACT_STRINGS" "Z" ∈ bz_W := List.mem_filter.mpr ⟨List.mem_of_getElem? (i := 757) (by decide +kernel), rfl⟩
theorem bz_sg_12_1053 : Cond.fieldLink "java/lang/String" 1053 "jdk/internal/util/Preconditions" "SIOOBE_FORMATTER" "Ljava/util/function/BiFunction;" ∈ bz_W := List.mem_filter.mpr ⟨List.mem_of_getElem? (i := 796) (by decide +kernel), rfl⟩
theorem bz_sg_2_25 : Cond.fieldLinkNest "BarcodeEngine$Ean8" 25 "BarcodeEngine" "EAN_WIDTHS" "[I" "BarcodeEngine" ∈ bz_T := List.mem_of_getElem? (i := 865) (by decide +kernel)
theorem bz_fl_in : ∀ e ∈ bz_flk, bz_flw e ∈ bz_W := fun e he => List.mem_filter.mpr ⟨bz_inT bz_fl_map e he, rfl⟩
def bz_KM : Nat := 296
set_option maxRecDepth 200000 in
theorem bz_own_map : (List.range bz_KM).map (fun k => (bz_y k).cls) = (List.range bz_KM).map bz_ow := rfl
set_option maxRecDepth 20000 in
def bz_pns : List Nat := [0, 0, 0, 4, 0, 0, 0, 0, 0, 0, 0, 0, 1, 1, 3, 0, 2, 2, 4, 3, 2, 2, 2, 3, 3, 2, 3, 1, 2, 2, 2, 3, 3, 3, 3, 3, 2, 2, 1, 1, 2, 3, 3, 4, 3, 0, 2, 3, 3, 2, 2, 2, 1, 1, 1, 1, 2, 1, 2, 2, 0, 2, 1, 1, 0, 7, 5, 1, 7, 5, 1, 1, 1, 1, 2, 0, 0, 0, 4, 1, 4, 1, 3, 3, 0, 2, 1, 2, 2, 2, 1, 4, 1, 1, 4, 2, 1, 1, 2, 2, 1, 1, 2, 2, 3, 8, 6, 2, 0, 2, 0, 1, 3, 1, 1, 4, 2, 2, 5, 3, 5, 3, 2, 2, 1, 4, 2, 1, 3, 2, 3, 1, 4, 2, 2, 5, 3, 1, 5, 3, 5, 3, 6, 4, 4, 2, 5, 3, 5, 3, 4, 2, 2, 3, 4, 2, 2, 5, 3, 6, 4, 3, 1, 3, 1, 5, 3, 4, 2, 4, 2, 3, 3, 1, 3, 1, 0, 3, 1, 3, 1, 1, 4, 2, 0, 0, 5, 5, 1, 3, 4, 2, 2, 1, 1, 2, 0, 1, 1, 1, 2, 1, 2, 6, 2, 0, 0, 1, 1, 2, 2, 3, 3, 1, 2, 2, 2, 1, 2, 2, 2, 2, 2, 2, 1, 2, 1, 3, 2, 2, 1, 1, 1, 2, 3, 2, 2, 2, 1, 1, 1, 1, 1, 2, 2, 2, 2, 2, 2, 2, 3, 3, 4, 3, 3, 3, 4, 2, 2, 2, 2, 3, 1, 3, 2, 3, 3, 3, 3, 4, 1, 1, 1, 1, 0, 1, 1, 3, 2, 1, 3, 1, 2, 1, 2, 1, 1, 2, 4, 1, 1, 0, 1, 1, 2, 1]
def bz_pn (k : Nat) : Nat := bz_pns.getD k 0
set_option maxRecDepth 200000 in
theorem bz_pn_ok : (List.range bz_KM).all (fun k => decide ((parseMethodDescriptor (bz_y k).desc).map (fun d => d.parameters.length) = some (bz_pn k))) = true := by decide +kernel
theorem bz_at_77 : ∀ w ∈ (vx_atS "BarcodeEngine" 77 "java/lang/IllegalStateException" ["java/lang/RuntimeException", "java/lang/Exception"]).filter goodWord, w ∈ bz_T := fun w h => List.mem_append_right _ ((by decide +kernel : ∀ w ∈ (vx_atS "BarcodeEngine" 77 "java/lang/IllegalStateException" ["java/lang/RuntimeException", "java/lang/Exception"]).filter goodWord, w ∈ lw_tbl) w h)
theorem bz_at_94 : ∀ w ∈ (vx_atS "BarcodeEngine" 94 "java/lang/IllegalArgumentException" ["java/lang/RuntimeException", "java/lang/Exception"]).filter goodWord, w ∈ bz_T := fun w h => List.mem_append_right _ ((by decide +kernel : ∀ w ∈ (vx_atS "BarcodeEngine" 94 "java/lang/IllegalArgumentException" ["java/lang/RuntimeException", "java/lang/Exception"]).filter goodWord, w ∈ lw_tbl) w h)
theorem bz_at_328 : ∀ w ∈ (vx_atS "BarcodeEngine" 328 "java/lang/IndexOutOfBoundsException" ["java/lang/RuntimeException", "java/lang/Exception"]).filter goodWord, w ∈ bz_T := fun w h => List.mem_append_right _ ((by decide +kernel : ∀ w ∈ (vx_atS "BarcodeEngine" 328 "java/lang/IndexOutOfBoundsException" ["java/lang/RuntimeException", "java/lang/Exception"]).filter goodWord, w ∈ lw_tbl) w h)
