abbrev yq_Rq_init : MethodName := ⟨"EdgeCache$Request", "<init>", "()V"⟩
abbrev yq_AB_init : MethodName := ⟨"java/lang/AbstractStringBuilder", "<init>", "(I)V"⟩
abbrev yq_SB_init : MethodName := ⟨"java/lang/StringBuilder", "<init>", "()V"⟩
abbrev yq_Rd_init : MethodName := ⟨"EdgeCache$Reader", "<init>", "()V"⟩
abbrev yq_Cn_init : MethodName := ⟨"EdgeCache$Connection", "<init>", "()V"⟩
abbrev yq_Ac_init : MethodName := ⟨"java/util/AbstractCollection", "<init>", "()V"⟩
abbrev yq_At_init : MethodName := ⟨"java/util/AbstractList", "<init>", "()V"⟩
abbrev yq_Al_init : MethodName := ⟨"java/util/ArrayList", "<init>", "()V"⟩
abbrev yq_Og_init : MethodName := ⟨"EdgeCache$Origin", "<init>", "()V"⟩
abbrev yq_Sh_init : MethodName := ⟨"EdgeCache$Sheet", "<init>", "()V"⟩
abbrev yq_So_init : MethodName := ⟨"EdgeCache$Store", "<init>", "(I)V"⟩
abbrev yq_EC_init : MethodName := ⟨"EdgeCache", "<init>", "(I)V"⟩
abbrev yq_As_newLength : MethodName := ⟨"jdk/internal/util/ArraysSupport", "newLength", "(III)I"⟩
abbrev yq_AB_newCapacity : MethodName := ⟨"java/lang/AbstractStringBuilder", "newCapacity", "(I)I"⟩
abbrev yq_Ar_copyOf_aBI : MethodName := ⟨"java/util/Arrays", "copyOf", "([BI)[B"⟩
abbrev yq_AB_ensureCapacityInternal : MethodName := ⟨"java/lang/AbstractStringBuilder", "ensureCapacityInternal", "(I)V"⟩
abbrev yq_AB_isLatin1 : MethodName := ⟨"java/lang/AbstractStringBuilder", "isLatin1", "()Z"⟩
abbrev yq_La_canEncode_C : MethodName := ⟨"java/lang/StringLatin1", "canEncode", "(C)Z"⟩
abbrev yq_AB_append_C : MethodName := ⟨"java/lang/AbstractStringBuilder", "append", "(C)Ljava/lang/AbstractStringBuilder;"⟩
abbrev yq_SB_append_C : MethodName := ⟨"java/lang/StringBuilder", "append", "(C)Ljava/lang/StringBuilder;"⟩
abbrev yq_It_getChars : MethodName := ⟨"java/lang/Integer", "getChars", "(II[B)I"⟩
abbrev yq_It_stringSize : MethodName := ⟨"java/lang/Integer", "stringSize", "(I)I"⟩
abbrev yq_AB_append_I : MethodName := ⟨"java/lang/AbstractStringBuilder", "append", "(I)Ljava/lang/AbstractStringBuilder;"⟩
abbrev yq_SB_append_I : MethodName := ⟨"java/lang/StringBuilder", "append", "(I)Ljava/lang/StringBuilder;"⟩
abbrev yq_Ar_rangeCheck : MethodName := ⟨"java/util/Arrays", "rangeCheck", "(III)V"⟩
abbrev yq_Ar_fill : MethodName := ⟨"java/util/Arrays", "fill", "([BIIB)V"⟩
abbrev yq_La_fillNull : MethodName := ⟨"java/lang/StringLatin1", "fillNull", "([BII)V"⟩
abbrev yq_AB_setLength : MethodName := ⟨"java/lang/AbstractStringBuilder", "setLength", "(I)V"⟩
abbrev yq_SB_setLength : MethodName := ⟨"java/lang/StringBuilder", "setLength", "(I)V"⟩
abbrev yq_Sh_begin : MethodName := ⟨"EdgeCache$Sheet", "begin", "(I)V"⟩
abbrev yq_Sh_numberLine : MethodName := ⟨"EdgeCache$Sheet", "numberLine", "(CI)V"⟩
abbrev yq_AB_getValue : MethodName := ⟨"java/lang/AbstractStringBuilder", "getValue", "()[B"⟩
abbrev yq_AB_length : MethodName := ⟨"java/lang/AbstractStringBuilder", "length", "()I"⟩
abbrev yq_SB_length : MethodName := ⟨"java/lang/StringBuilder", "length", "()I"⟩
abbrev yq_Ar_checkLength : MethodName := ⟨"java/util/Arrays", "checkLength", "(II)V"⟩
abbrev yq_Ar_copyOfRangeByte : MethodName := ⟨"java/util/Arrays", "copyOfRangeByte", "([BII)[B"⟩
abbrev yq_Ar_copyOfRange : MethodName := ⟨"java/util/Arrays", "copyOfRange", "([BII)[B"⟩
abbrev yq_St_init_OO : MethodName := ⟨"java/lang/String", "<init>", "(Ljava/lang/AbstractStringBuilder;Ljava/lang/Void;)V"⟩
abbrev yq_St_init_O : MethodName := ⟨"java/lang/String", "<init>", "(Ljava/lang/StringBuilder;)V"⟩
abbrev yq_SB_toString : MethodName := ⟨"java/lang/StringBuilder", "toString", "()Ljava/lang/String;"⟩
abbrev yq_Sh_bare : MethodName := ⟨"EdgeCache$Sheet", "bare", "(II)Ljava/lang/String;"⟩
abbrev yq_St_isLatin1 : MethodName := ⟨"java/lang/String", "isLatin1", "()Z"⟩
abbrev yq_Pc_checkIndex : MethodName := ⟨"jdk/internal/util/Preconditions", "checkIndex", "(IILjava/util/function/BiFunction;)I"⟩
abbrev yq_St_checkIndex : MethodName := ⟨"java/lang/String", "checkIndex", "(II)V"⟩
abbrev yq_La_charAt : MethodName := ⟨"java/lang/StringLatin1", "charAt", "([BI)C"⟩
abbrev yq_St_charAt : MethodName := ⟨"java/lang/String", "charAt", "(I)C"⟩
abbrev yq_St_coder : MethodName := ⟨"java/lang/String", "coder", "()B"⟩
abbrev yq_St_length : MethodName := ⟨"java/lang/String", "length", "()I"⟩
abbrev yq_Tx_whole : MethodName := ⟨"EdgeCache$Text", "whole", "(Ljava/lang/String;II)I"⟩
abbrev yq_Sh_asksForPart : MethodName := ⟨"EdgeCache$Sheet", "asksForPart", "(LEdgeCache$Request;I)Z"⟩
abbrev yq_St_isEmpty : MethodName := ⟨"java/lang/String", "isEmpty", "()Z"⟩
abbrev yq_AB_inflateIfNeededFor : MethodName := ⟨"java/lang/AbstractStringBuilder", "inflateIfNeededFor", "(Ljava/lang/String;)V"⟩
abbrev yq_La_inflate : MethodName := ⟨"java/lang/StringLatin1", "inflate", "([BI[BII)V"⟩
abbrev yq_St_getBytes : MethodName := ⟨"java/lang/String", "getBytes", "([BIB)V"⟩
abbrev yq_AB_putStringAt : MethodName := ⟨"java/lang/AbstractStringBuilder", "putStringAt", "(ILjava/lang/String;)V"⟩
abbrev yq_AB_append_S : MethodName := ⟨"java/lang/AbstractStringBuilder", "append", "(Ljava/lang/String;)Ljava/lang/AbstractStringBuilder;"⟩
abbrev yq_SB_append_S : MethodName := ⟨"java/lang/StringBuilder", "append", "(Ljava/lang/String;)Ljava/lang/StringBuilder;"⟩
abbrev yq_Sh_describe : MethodName := ⟨"EdgeCache$Sheet", "describe", "(ILEdgeCache$Representation;I)V"⟩
abbrev yq_Sh_span : MethodName := ⟨"EdgeCache$Sheet", "span", "(I)V"⟩
abbrev yq_Pc_checkFromToIndex : MethodName := ⟨"jdk/internal/util/Preconditions", "checkFromToIndex", "(IIILjava/util/function/BiFunction;)I"⟩
abbrev yq_St_checkBoundsBeginEnd : MethodName := ⟨"java/lang/String", "checkBoundsBeginEnd", "(III)V"⟩
abbrev yq_St_init_aBB : MethodName := ⟨"java/lang/String", "<init>", "([BB)V"⟩
abbrev yq_La_newString : MethodName := ⟨"java/lang/StringLatin1", "newString", "([BII)Ljava/lang/String;"⟩
abbrev yq_St_substring_II : MethodName := ⟨"java/lang/String", "substring", "(II)Ljava/lang/String;"⟩
abbrev yq_Sh_onePiece : MethodName := ⟨"EdgeCache$Sheet", "onePiece", "(Ljava/lang/String;)V"⟩
abbrev yq_Sh_twoPieces : MethodName := ⟨"EdgeCache$Sheet", "twoPieces", "(Ljava/lang/String;)V"⟩
abbrev yq_Sh_part : MethodName := ⟨"EdgeCache$Sheet", "part", "(LEdgeCache$Representation;I)Ljava/lang/String;"⟩
abbrev yq_Sh_notePiece : MethodName := ⟨"EdgeCache$Sheet", "notePiece", "(II)V"⟩
abbrev yq_La_canEncode_I : MethodName := ⟨"java/lang/StringLatin1", "canEncode", "(I)Z"⟩
abbrev yq_La_indexOfChar : MethodName := ⟨"java/lang/StringLatin1", "indexOfChar", "([BIII)I"⟩
abbrev yq_La_indexOf : MethodName := ⟨"java/lang/StringLatin1", "indexOf", "([BIII)I"⟩
abbrev yq_St_indexOf_II : MethodName := ⟨"java/lang/String", "indexOf", "(II)I"⟩
abbrev yq_St_indexOf_I : MethodName := ⟨"java/lang/String", "indexOf", "(I)I"⟩
abbrev yq_Sh_readPiece : MethodName := ⟨"EdgeCache$Sheet", "readPiece", "(Ljava/lang/String;I)Z"⟩
abbrev yq_Sh_readPieces : MethodName := ⟨"EdgeCache$Sheet", "readPieces", "(Ljava/lang/String;I)Z"⟩
abbrev yq_Sh_whole : MethodName := ⟨"EdgeCache$Sheet", "whole", "(LEdgeCache$Representation;IZ)V"⟩
abbrev yq_La_equals : MethodName := ⟨"java/lang/StringLatin1", "equals", "([B[B)Z"⟩
abbrev yq_St_equals : MethodName := ⟨"java/lang/String", "equals", "(Ljava/lang/Object;)Z"⟩
abbrev yq_Tx_matches : MethodName := ⟨"EdgeCache$Text", "matches", "(Ljava/lang/String;I)Z"⟩
abbrev yq_Sh_select : MethodName := ⟨"EdgeCache$Sheet", "select", "(LEdgeCache$Representation;LEdgeCache$Request;I)Ljava/lang/String;"⟩
abbrev yq_EC_answerTo : MethodName := ⟨"EdgeCache", "answerTo", "(LEdgeCache$Job;)Ljava/lang/String;"⟩
abbrev yq_Tx_isDigit : MethodName := ⟨"EdgeCache$Text", "isDigit", "(C)Z"⟩
abbrev yq_Tx_number : MethodName := ⟨"EdgeCache$Text", "number", "(Ljava/lang/String;C)I"⟩
abbrev yq_Sd_lifetime : MethodName := ⟨"EdgeCache$Stored", "lifetime", "()I"⟩
abbrev yq_Tx_counts : MethodName := ⟨"EdgeCache$Text", "counts", "(Ljava/lang/String;C)Z"⟩
abbrev yq_EC_mayAnswer : MethodName := ⟨"EdgeCache", "mayAnswer", "(LEdgeCache$Stored;LEdgeCache$Request;)Z"⟩
abbrev yq_Al_isEmpty : MethodName := ⟨"java/util/ArrayList", "isEmpty", "()Z"⟩
abbrev yq_Al_fastRemove : MethodName := ⟨"java/util/ArrayList", "fastRemove", "([Ljava/lang/Object;I)V"⟩
abbrev yq_Ob_checkIndex : MethodName := ⟨"java/util/Objects", "checkIndex", "(II)I"⟩
abbrev yq_Al_remove : MethodName := ⟨"java/util/ArrayList", "remove", "(I)Ljava/lang/Object;"⟩
abbrev yq_EC_sendWaiting : MethodName := ⟨"EdgeCache", "sendWaiting", "()V"⟩
abbrev yq_Jb_init : MethodName := ⟨"EdgeCache$Job", "<init>", "(LEdgeCache$Request;I)V"⟩
abbrev yq_Rq_isRead : MethodName := ⟨"EdgeCache$Request", "isRead", "()Z"⟩
abbrev yq_Sd_hasVariant : MethodName := ⟨"EdgeCache$Stored", "hasVariant", "(Ljava/lang/String;)Z"⟩
abbrev yq_Sd_fits : MethodName := ⟨"EdgeCache$Stored", "fits", "(LEdgeCache$Request;)Z"⟩
abbrev yq_Al_elementData : MethodName := ⟨"java/util/ArrayList", "elementData", "(I)Ljava/lang/Object;"⟩
abbrev yq_Al_get : MethodName := ⟨"java/util/ArrayList", "get", "(I)Ljava/lang/Object;"⟩
abbrev yq_Al_size : MethodName := ⟨"java/util/ArrayList", "size", "()I"⟩
abbrev yq_So_fitting : MethodName := ⟨"EdgeCache$Store", "fitting", "(LEdgeCache$Request;)LEdgeCache$Stored;"⟩
abbrev yq_Ar_copyOf_aOIO : MethodName := ⟨"java/util/Arrays", "copyOf", "([Ljava/lang/Object;ILjava/lang/Class;)[Ljava/lang/Object;"⟩
abbrev yq_Ar_copyOf_aOI : MethodName := ⟨"java/util/Arrays", "copyOf", "([Ljava/lang/Object;I)[Ljava/lang/Object;"⟩
abbrev yq_Al_grow_I : MethodName := ⟨"java/util/ArrayList", "grow", "(I)[Ljava/lang/Object;"⟩
abbrev yq_Al_grow_ : MethodName := ⟨"java/util/ArrayList", "grow", "()[Ljava/lang/Object;"⟩
abbrev yq_Al_add_OaOI : MethodName := ⟨"java/util/ArrayList", "add", "(Ljava/lang/Object;[Ljava/lang/Object;I)V"⟩
abbrev yq_Al_add_O : MethodName := ⟨"java/util/ArrayList", "add", "(Ljava/lang/Object;)Z"⟩
abbrev yq_So_use : MethodName := ⟨"EdgeCache$Store", "use", "(LEdgeCache$Stored;)V"⟩
abbrev yq_EC_handleAtCache : MethodName := ⟨"EdgeCache", "handleAtCache", "(LEdgeCache$Request;)V"⟩
abbrev yq_Cn_write : MethodName := ⟨"EdgeCache$Connection", "write", "(Ljava/lang/String;)V"⟩
abbrev yq_Cn_deliver : MethodName := ⟨"EdgeCache$Connection", "deliver", "()V"⟩
abbrev yq_Cn_enlist : MethodName := ⟨"EdgeCache$Connection", "enlist", "(LEdgeCache$Request;)V"⟩
abbrev yq_Og_indexOf : MethodName := ⟨"EdgeCache$Origin", "indexOf", "(Ljava/lang/String;)I"⟩
abbrev yq_Og_isForbidden : MethodName := ⟨"EdgeCache$Origin", "isForbidden", "(LEdgeCache$Request;LEdgeCache$Representation;)Z"⟩
abbrev yq_Rs_least : MethodName := ⟨"EdgeCache$Resource", "least", "()LEdgeCache$Representation;"⟩
abbrev yq_Og_delete : MethodName := ⟨"EdgeCache$Origin", "delete", "(LEdgeCache$Job;)V"⟩
abbrev yq_Rs_init : MethodName := ⟨"EdgeCache$Resource", "<init>", "(Ljava/lang/String;)V"⟩
abbrev yq_Rs_at : MethodName := ⟨"EdgeCache$Resource", "at", "(I)LEdgeCache$Representation;"⟩
abbrev yq_Rs_placeOf : MethodName := ⟨"EdgeCache$Resource", "placeOf", "(Ljava/lang/String;)I"⟩
abbrev yq_Rp_init : MethodName := ⟨"EdgeCache$Representation", "<init>", "(CLjava/lang/String;ILjava/lang/String;Z)V"⟩
abbrev yq_Rs_letterCount : MethodName := ⟨"EdgeCache$Resource", "letterCount", "()I"⟩
abbrev yq_Rs_set : MethodName := ⟨"EdgeCache$Resource", "set", "(ILjava/lang/String;ILjava/lang/String;)V"⟩
abbrev yq_Og_put : MethodName := ⟨"EdgeCache$Origin", "put", "(LEdgeCache$Job;)V"⟩
abbrev yq_Rs_choose : MethodName := ⟨"EdgeCache$Resource", "choose", "(Ljava/lang/String;)LEdgeCache$Representation;"⟩
abbrev yq_Og_read : MethodName := ⟨"EdgeCache$Origin", "read", "(LEdgeCache$Job;)V"⟩
abbrev yq_Og_work : MethodName := ⟨"EdgeCache$Origin", "work", "(LEdgeCache$Job;)V"⟩
abbrev yq_Rd_finish : MethodName := ⟨"EdgeCache$Reader", "finish", "()LEdgeCache$Request;"⟩
abbrev yq_EC_handle : MethodName := ⟨"EdgeCache", "handle", "(II)V"⟩
abbrev yq_EC_isConnection : MethodName := ⟨"EdgeCache", "isConnection", "(I)Z"⟩
abbrev yq_Cn_unanswered : MethodName := ⟨"EdgeCache$Connection", "unanswered", "()I"⟩
abbrev yq_Cn_mayTake : MethodName := ⟨"EdgeCache$Connection", "mayTake", "()Z"⟩
abbrev yq_Rd_endHeaders : MethodName := ⟨"EdgeCache$Reader", "endHeaders", "()I"⟩
abbrev yq_Tx_hexadecimal : MethodName := ⟨"EdgeCache$Text", "hexadecimal", "(C)I"⟩
abbrev yq_Rd_judgeChunk : MethodName := ⟨"EdgeCache$Reader", "judgeChunk", "(Ljava/lang/String;)I"⟩
abbrev yq_Rd_isHeader : MethodName := ⟨"EdgeCache$Reader", "isHeader", "(Ljava/lang/String;)Z"⟩
abbrev yq_Rd_takeLength : MethodName := ⟨"EdgeCache$Reader", "takeLength", "(Ljava/lang/String;)I"⟩
abbrev yq_Rq_set : MethodName := ⟨"EdgeCache$Request", "set", "(CLjava/lang/String;)V"⟩
abbrev yq_St_substring_I : MethodName := ⟨"java/lang/String", "substring", "(I)Ljava/lang/String;"⟩
abbrev yq_Rd_judgeHeader : MethodName := ⟨"EdgeCache$Reader", "judgeHeader", "(Ljava/lang/String;)I"⟩
abbrev yq_Rq_methodNamed : MethodName := ⟨"EdgeCache$Request", "methodNamed", "(Ljava/lang/String;)I"⟩
abbrev yq_Tx_isPlain : MethodName := ⟨"EdgeCache$Text", "isPlain", "(C)Z"⟩
abbrev yq_Tx_appendPair : MethodName := ⟨"EdgeCache$Text", "appendPair", "(Ljava/lang/StringBuilder;II)V"⟩
abbrev yq_Tx_decoded : MethodName := ⟨"EdgeCache$Text", "decoded", "(Ljava/lang/String;Ljava/lang/StringBuilder;)Ljava/lang/String;"⟩
abbrev yq_AB_charAt : MethodName := ⟨"java/lang/AbstractStringBuilder", "charAt", "(I)C"⟩
abbrev yq_SB_charAt : MethodName := ⟨"java/lang/StringBuilder", "charAt", "(I)C"⟩
abbrev yq_Tx_lastSlash : MethodName := ⟨"EdgeCache$Text", "lastSlash", "(Ljava/lang/StringBuilder;)I"⟩
abbrev yq_Tx_addSegment : MethodName := ⟨"EdgeCache$Text", "addSegment", "(Ljava/lang/StringBuilder;Ljava/lang/String;Z)V"⟩
abbrev yq_Tx_path : MethodName := ⟨"EdgeCache$Text", "path", "(Ljava/lang/String;Ljava/lang/StringBuilder;)Ljava/lang/String;"⟩
abbrev yq_Rd_judgeRequestLine : MethodName := ⟨"EdgeCache$Reader", "judgeRequestLine", "(Ljava/lang/String;)I"⟩
abbrev yq_Rd_judge : MethodName := ⟨"EdgeCache$Reader", "judge", "(Ljava/lang/String;)I"⟩
abbrev yq_Rd_takeBody : MethodName := ⟨"EdgeCache$Reader", "takeBody", "(I)I"⟩
abbrev yq_Rd_take : MethodName := ⟨"EdgeCache$Reader", "take", "(I)I"⟩
abbrev yq_EC_feed : MethodName := ⟨"EdgeCache", "feed", "(IJ)I"⟩
abbrev yq_Cn_takeEight : MethodName := ⟨"EdgeCache$Connection", "takeEight", "()J"⟩
abbrev yq_EC_out : MethodName := ⟨"EdgeCache", "out", "(I)J"⟩
abbrev yq_EC_pending : MethodName := ⟨"EdgeCache", "pending", "(I)I"⟩
abbrev yq_EC_waiting : MethodName := ⟨"EdgeCache", "waiting", "(I)I"⟩
abbrev yq_EC_open : MethodName := ⟨"EdgeCache", "open", "(I)Z"⟩
abbrev yq_EC_deliver : MethodName := ⟨"EdgeCache", "deliver", "()V"⟩
abbrev yq_EC_pass : MethodName := ⟨"EdgeCache", "pass", "(I)I"⟩
abbrev yq_EC_isUpstream : MethodName := ⟨"EdgeCache", "isUpstream", "(I)Z"⟩
abbrev yq_EC_jobOn : MethodName := ⟨"EdgeCache", "jobOn", "(I)LEdgeCache$Job;"⟩
abbrev yq_Jb_isDone : MethodName := ⟨"EdgeCache$Job", "isDone", "()Z"⟩
abbrev yq_EC_origin : MethodName := ⟨"EdgeCache", "origin", "(I)I"⟩
abbrev yq_EC_spoil : MethodName := ⟨"EdgeCache", "spoil", "(LEdgeCache$Job;Ljava/lang/String;)V"⟩
abbrev yq_Sh_sizeOf : MethodName := ⟨"EdgeCache$Sheet", "sizeOf", "(LEdgeCache$Representation;)I"⟩
abbrev yq_So_drop : MethodName := ⟨"EdgeCache$Store", "drop", "(I)V"⟩
abbrev yq_So_dropFitting : MethodName := ⟨"EdgeCache$Store", "dropFitting", "(LEdgeCache$Request;)V"⟩
abbrev yq_So_dropReplaced : MethodName := ⟨"EdgeCache$Store", "dropReplaced", "(LEdgeCache$Request;Z)V"⟩
abbrev yq_So_keep : MethodName := ⟨"EdgeCache$Store", "keep", "(LEdgeCache$Stored;)V"⟩
abbrev yq_Sd_init : MethodName := ⟨"EdgeCache$Stored", "<init>", "(LEdgeCache$Representation;LEdgeCache$Request;II)V"⟩
abbrev yq_EC_takeRead : MethodName := ⟨"EdgeCache", "takeRead", "(LEdgeCache$Job;)V"⟩
abbrev yq_So_dropPath : MethodName := ⟨"EdgeCache$Store", "dropPath", "(Ljava/lang/String;)V"⟩
abbrev yq_EC_arrive : MethodName := ⟨"EdgeCache", "arrive", "(I)I"⟩
abbrev yq_EC_upstream : MethodName := ⟨"EdgeCache", "upstream", "(I)I"⟩
abbrev yq_EC_queue : MethodName := ⟨"EdgeCache", "queue", "()I"⟩
abbrev yq_So_count : MethodName := ⟨"EdgeCache$Store", "count", "()I"⟩
abbrev yq_EC_stored : MethodName := ⟨"EdgeCache", "stored", "()I"⟩
abbrev yq_EC_bytes : MethodName := ⟨"EdgeCache", "bytes", "()I"⟩
abbrev yq_EC_tag : MethodName := ⟨"EdgeCache", "tag", "()I"⟩
abbrev yq_EC_clock : MethodName := ⟨"EdgeCache", "clock", "()I"⟩
abbrev yq_Md_init : MethodName := ⟨"EdgeCacheModel", "<init>", "(I)V"⟩
abbrev yq_Md_has : MethodName := ⟨"EdgeCacheModel", "has", "(II)Z"⟩
abbrev yq_Md_byteOf : MethodName := ⟨"EdgeCacheModel", "byteOf", "(JI)I"⟩
abbrev yq_Md_digits : MethodName := ⟨"EdgeCacheModel", "digits", "(JII)I"⟩
abbrev yq_Md_numberOf : MethodName := ⟨"EdgeCacheModel", "numberOf", "(JII)I"⟩
abbrev yq_Md_inValue : MethodName := ⟨"EdgeCacheModel", "inValue", "(III)I"⟩
abbrev yq_Md_least : MethodName := ⟨"EdgeCacheModel", "least", "(I)I"⟩
abbrev yq_Md_letters : MethodName := ⟨"EdgeCacheModel", "letters", "(I)I"⟩
abbrev yq_Md_choose : MethodName := ⟨"EdgeCacheModel", "choose", "(II)I"⟩
abbrev yq_Md_resource : MethodName := ⟨"EdgeCacheModel", "resource", "(I)I"⟩
abbrev yq_Md_ask : MethodName := ⟨"EdgeCacheModel", "ask", "(II)I"⟩
abbrev yq_Md_freshResource : MethodName := ⟨"EdgeCacheModel", "freshResource", "(I)I"⟩
abbrev yq_Md_matches : MethodName := ⟨"EdgeCacheModel", "matches", "(III)Z"⟩
abbrev yq_Md_holds : MethodName := ⟨"EdgeCacheModel", "holds", "(II)Z"⟩
abbrev yq_Md_change : MethodName := ⟨"EdgeCacheModel", "change", "(I)I"⟩
abbrev yq_Md_put : MethodName := ⟨"EdgeCacheModel", "put", "(I)V"⟩
abbrev yq_Md_putNumber : MethodName := ⟨"EdgeCacheModel", "putNumber", "(I)V"⟩
abbrev yq_Md_begin : MethodName := ⟨"EdgeCacheModel", "begin", "(I)V"⟩
abbrev yq_Md_name : MethodName := ⟨"EdgeCacheModel", "name", "(I)V"⟩
abbrev yq_Md_putLine : MethodName := ⟨"EdgeCacheModel", "putLine", "(II)V"⟩
abbrev yq_Md_plain : MethodName := ⟨"EdgeCacheModel", "plain", "(I)I"⟩
abbrev yq_Md_changed : MethodName := ⟨"EdgeCacheModel", "changed", "(II)V"⟩
abbrev yq_Md_putBytes : MethodName := ⟨"EdgeCacheModel", "putBytes", "(JII)V"⟩
abbrev yq_Md_head : MethodName := ⟨"EdgeCacheModel", "head", "(III)V"⟩
abbrev yq_Md_part : MethodName := ⟨"EdgeCacheModel", "part", "(III)V"⟩
abbrev yq_Md_pieces : MethodName := ⟨"EdgeCacheModel", "pieces", "(JII)I"⟩
abbrev yq_Md_whole : MethodName := ⟨"EdgeCacheModel", "whole", "(IIZ)V"⟩
abbrev yq_Md_select : MethodName := ⟨"EdgeCacheModel", "select", "(III)V"⟩
abbrev yq_Md_direct : MethodName := ⟨"EdgeCacheModel", "direct", "()V"⟩
abbrev yq_Md_finish : MethodName := ⟨"EdgeCacheModel", "finish", "(II)V"⟩
abbrev yq_Md_copy : MethodName := ⟨"EdgeCacheModel", "copy", "(II)V"⟩
abbrev yq_Md_samePath : MethodName := ⟨"EdgeCacheModel", "samePath", "(II)Z"⟩
abbrev yq_Md_fits : MethodName := ⟨"EdgeCacheModel", "fits", "(II)Z"⟩
abbrev yq_Md_jobOn : MethodName := ⟨"EdgeCacheModel", "jobOn", "(I)I"⟩
abbrev yq_Md_send : MethodName := ⟨"EdgeCacheModel", "send", "()V"⟩
abbrev yq_Md_inPolicy : MethodName := ⟨"EdgeCacheModel", "inPolicy", "(II)I"⟩
abbrev yq_Md_usable : MethodName := ⟨"EdgeCacheModel", "usable", "(II)Z"⟩
abbrev yq_Md_handle : MethodName := ⟨"EdgeCacheModel", "handle", "(II)V"⟩
abbrev yq_Md_hex : MethodName := ⟨"EdgeCacheModel", "hex", "(I)I"⟩
abbrev yq_Md_lineEnd : MethodName := ⟨"EdgeCacheModel", "lineEnd", "(II)I"⟩
abbrev yq_Md_chunks : MethodName := ⟨"EdgeCacheModel", "chunks", "(II)I"⟩
abbrev yq_Md_header : MethodName := ⟨"EdgeCacheModel", "header", "(III)I"⟩
abbrev yq_Md_plainBody : MethodName := ⟨"EdgeCacheModel", "plainBody", "(II)I"⟩
abbrev yq_Md_digit : MethodName := ⟨"EdgeCacheModel", "digit", "(I)I"⟩
abbrev yq_Md_normal : MethodName := ⟨"EdgeCacheModel", "normal", "(I)I"⟩
abbrev yq_Md_unreserved : MethodName := ⟨"EdgeCacheModel", "unreserved", "(I)Z"⟩
abbrev yq_Md_requestLine : MethodName := ⟨"EdgeCacheModel", "requestLine", "(II)I"⟩
abbrev yq_Md_parse : MethodName := ⟨"EdgeCacheModel", "parse", "(I)I"⟩
abbrev yq_Md_comes : MethodName := ⟨"EdgeCacheModel", "comes", "(II)V"⟩
abbrev yq_Md_may : MethodName := ⟨"EdgeCacheModel", "may", "(I)Z"⟩
abbrev yq_Md_feed : MethodName := ⟨"EdgeCacheModel", "feed", "(IJ)I"⟩
abbrev yq_Md_origin : MethodName := ⟨"EdgeCacheModel", "origin", "(I)I"⟩
abbrev yq_Md_invalidate : MethodName := ⟨"EdgeCacheModel", "invalidate", "(II)V"⟩
abbrev yq_Md_bytes : MethodName := ⟨"EdgeCacheModel", "bytes", "()I"⟩
abbrev yq_Md_store : MethodName := ⟨"EdgeCacheModel", "store", "(I)V"⟩
abbrev yq_Md_arrive : MethodName := ⟨"EdgeCacheModel", "arrive", "(I)I"⟩
abbrev yq_Md_pass : MethodName := ⟨"EdgeCacheModel", "pass", "(I)I"⟩
abbrev yq_Md_out : MethodName := ⟨"EdgeCacheModel", "out", "(I)J"⟩
abbrev yq_Md_pending : MethodName := ⟨"EdgeCacheModel", "pending", "(I)I"⟩
abbrev yq_Md_waiting : MethodName := ⟨"EdgeCacheModel", "waiting", "(I)I"⟩
abbrev yq_Md_open : MethodName := ⟨"EdgeCacheModel", "open", "(I)Z"⟩
abbrev yq_Md_upstream : MethodName := ⟨"EdgeCacheModel", "upstream", "(I)I"⟩
abbrev yq_Md_queue : MethodName := ⟨"EdgeCacheModel", "queue", "()I"⟩
abbrev yq_Md_stored : MethodName := ⟨"EdgeCacheModel", "stored", "()I"⟩
abbrev yq_Md_tag : MethodName := ⟨"EdgeCacheModel", "tag", "()I"⟩
abbrev yq_Md_clock : MethodName := ⟨"EdgeCacheModel", "clock", "()I"⟩
theorem aq_1 : Cond.arrayClass (.byte) ∈ vw_WG := (wg_t 118 rfl rfl)
theorem aq_2 : Cond.arrayClass (.int) ∈ vw_WG := (wg_t 132 rfl rfl)
theorem aq_5 : Cond.arrayClass (.char) ∈ vw_WG := (wg_t 296 rfl rfl)
theorem aq_8 : Cond.arrayClass (.boolean) ∈ vw_WG := (wg_t 1491 rfl rfl)
theorem aq_9 : Cond.arrayClass (.long) ∈ vw_WG := (wg_t 1492 rfl rfl)
theorem cq_Cn_67 : Cond.constantLong "EdgeCache$Connection" 67 (256) ∈ vw_WG := (wg_t 1164 rfl rfl)
theorem cq_Md_226 : Cond.constantLong "EdgeCacheModel" 226 (256) ∈ vw_WG := (wg_t 1517 rfl rfl)
theorem cq_Md_228 : Cond.constantLong "EdgeCacheModel" 228 (4670804) ∈ vw_WG := (wg_t 1518 rfl rfl)
theorem cq_Md_230 : Cond.constantLong "EdgeCacheModel" 230 (1212498244) ∈ vw_WG := (wg_t 1519 rfl rfl)
theorem cq_Md_232 : Cond.constantLong "EdgeCacheModel" 232 (5264724) ∈ vw_WG := (wg_t 1520 rfl rfl)
theorem cq_Md_234 : Cond.constantLong "EdgeCacheModel" 234 (75064423044165) ∈ vw_WG := (wg_t 1521 rfl rfl)
theorem cq_Md_252 : Cond.constantLong "EdgeCacheModel" 252 (99) ∈ vw_WG := (wg_t 1545 rfl rfl)
theorem cq_Md_265 : Cond.constantLong "EdgeCacheModel" 265 (42) ∈ vw_WG := (wg_t 1610 rfl rfl)
theorem cq_Md_326 : Cond.constantLong "EdgeCacheModel" 326 (97) ∈ vw_WG := (wg_t 1611 rfl rfl)
theorem cq_AB_39 : Cond.constant "java/lang/AbstractStringBuilder" 39 (2147483647) ∈ vw_WG := (wg_t 365 rfl rfl)
theorem cq_As_200 : Cond.constant "jdk/internal/util/ArraysSupport" 200 (2147483639) ∈ vw_WG := (wg_t 361 rfl rfl)
theorem fq_Cn_10 : wo_FD "EdgeCache$Connection" 10 384 7 (.object "EdgeCache$Reader") true true := ⟨6, 0, _, "EdgeCache$Connection", rfl, rfl, rfl, by decide, rfl, rfl, rfl, (wg_t 271 rfl rfl), Or.inl rfl, fun _ => rfl⟩
theorem fq_Cn_18 : wo_FD "EdgeCache$Connection" 18 385 7 (.array (.object "EdgeCache$Request")) true true := ⟨6, 1, _, "EdgeCache$Connection", rfl, rfl, rfl, by decide, rfl, rfl, rfl, (wg_t 273 rfl rfl), Or.inl rfl, fun _ => rfl⟩
theorem fq_Cn_22 : wo_FD "EdgeCache$Connection" 22 386 7 (.array .char) true true := ⟨6, 2, _, "EdgeCache$Connection", rfl, rfl, rfl, by decide, rfl, rfl, rfl, (wg_t 274 rfl rfl), Or.inl rfl, fun _ => rfl⟩
theorem fq_Cn_26 : wo_FD "EdgeCache$Connection" 26 390 7 .boolean false false := ⟨6, 6, _, "EdgeCache$Connection", rfl, rfl, rfl, by decide, rfl, rfl, rfl, (wg_t 279 rfl rfl), Or.inl rfl, fun h => by cases h⟩
theorem fq_Cn_30 : wo_FD "EdgeCache$Connection" 30 387 7 .int false false := ⟨6, 3, _, "EdgeCache$Connection", rfl, rfl, rfl, by decide, rfl, rfl, rfl, (wg_t 275 rfl rfl), Or.inl rfl, fun h => by cases h⟩
theorem fq_Cn_38 : wo_FD "EdgeCache$Connection" 38 389 7 .int false false := ⟨6, 5, _, "EdgeCache$Connection", rfl, rfl, rfl, by decide, rfl, rfl, rfl, (wg_t 277 rfl rfl), Or.inl rfl, fun h => by cases h⟩
theorem fq_Cn_41 : wo_FD "EdgeCache$Connection" 41 388 7 .int false false := ⟨6, 4, _, "EdgeCache$Connection", rfl, rfl, rfl, by decide, rfl, rfl, rfl, (wg_t 276 rfl rfl), Or.inl rfl, fun h => by cases h⟩
theorem fq_Cn_44 : wo_FD "EdgeCache$Connection" 44 523 9 (.object "java/lang/String") false false := ⟨8, 11, _, "EdgeCache$Request", rfl, rfl, rfl, by decide, rfl, rfl, rfl, (wg_t 214 rfl rfl), Or.inl rfl, fun h => by cases h⟩
theorem fq_Jb_13 : wo_FD "EdgeCache$Job" 13 641 11 .int true true := ⟨10, 1, _, "EdgeCache$Job", rfl, rfl, rfl, by decide, rfl, rfl, rfl, (wg_t 814 rfl rfl), Or.inl rfl, fun _ => rfl⟩
theorem fq_Jb_17 : wo_FD "EdgeCache$Job" 17 643 11 .int false false := ⟨10, 3, _, "EdgeCache$Job", rfl, rfl, rfl, by decide, rfl, rfl, rfl, (wg_t 817 rfl rfl), Or.inl rfl, fun h => by cases h⟩
theorem fq_Jb_7 : wo_FD "EdgeCache$Job" 7 640 11 (.object "EdgeCache$Request") true true := ⟨10, 0, _, "EdgeCache$Job", rfl, rfl, rfl, by decide, rfl, rfl, rfl, (wg_t 811 rfl rfl), Or.inl rfl, fun _ => rfl⟩
theorem fq_Og_101 : wo_FD "EdgeCache$Origin" 101 769 13 (.object "java/lang/String") true false := ⟨12, 1, _, "EdgeCache$Representation", rfl, rfl, rfl, by decide, rfl, rfl, rfl, (wg_t 964 rfl rfl), Or.inl rfl, fun h => by cases h⟩
theorem fq_Og_104 : wo_FD "EdgeCache$Origin" 104 514 9 (.object "java/lang/String") false false := ⟨8, 2, _, "EdgeCache$Request", rfl, rfl, rfl, by decide, rfl, rfl, rfl, (wg_t 194 rfl rfl), Or.inl rfl, fun h => by cases h⟩
theorem fq_Og_110 : wo_FD "EdgeCache$Origin" 110 65 2 .int false false := ⟨1, 1, _, "EdgeCache$Origin", rfl, rfl, rfl, by decide, rfl, rfl, rfl, (wg_t 73 rfl rfl), Or.inl rfl, fun h => by cases h⟩
theorem fq_Og_113 : wo_FD "EdgeCache$Origin" 113 645 11 .int false false := ⟨10, 5, _, "EdgeCache$Job", rfl, rfl, rfl, by decide, rfl, rfl, rfl, (wg_t 822 rfl rfl), Or.inl rfl, fun h => by cases h⟩
theorem fq_Og_116 : wo_FD "EdgeCache$Origin" 116 522 9 (.object "java/lang/String") false false := ⟨8, 10, _, "EdgeCache$Request", rfl, rfl, rfl, by decide, rfl, rfl, rfl, (wg_t 213 rfl rfl), Or.inl rfl, fun h => by cases h⟩
theorem fq_Og_12 : wo_FD "EdgeCache$Origin" 12 64 2 (.object "java/util/ArrayList") true true := ⟨1, 0, _, "EdgeCache$Origin", rfl, rfl, rfl, by decide, rfl, rfl, rfl, (wg_t 72 rfl rfl), Or.inl rfl, fun _ => rfl⟩
theorem fq_Og_132 : wo_FD "EdgeCache$Origin" 132 515 9 (.object "java/lang/String") false false := ⟨8, 3, _, "EdgeCache$Request", rfl, rfl, rfl, by decide, rfl, rfl, rfl, (wg_t 197 rfl rfl), Or.inl rfl, fun h => by cases h⟩
theorem fq_Og_141 : wo_FD "EdgeCache$Origin" 141 516 9 (.object "java/lang/String") false false := ⟨8, 4, _, "EdgeCache$Request", rfl, rfl, rfl, by decide, rfl, rfl, rfl, (wg_t 200 rfl rfl), Or.inl rfl, fun h => by cases h⟩
theorem fq_Og_144 : wo_FD "EdgeCache$Origin" 144 704 12 (.object "java/lang/String") true false := ⟨11, 0, _, "EdgeCache$Resource", rfl, rfl, rfl, by decide, rfl, rfl, rfl, (wg_t 895 rfl rfl), Or.inl rfl, fun h => by cases h⟩
theorem fq_Og_18 : wo_FD "EdgeCache$Origin" 18 640 11 (.object "EdgeCache$Request") true false := ⟨10, 0, _, "EdgeCache$Job", rfl, rfl, rfl, by decide, rfl, rfl, rfl, (wg_t 812 rfl rfl), Or.inl rfl, fun h => by cases h⟩
theorem fq_Og_24 : wo_FD "EdgeCache$Origin" 24 512 9 .int false false := ⟨8, 0, _, "EdgeCache$Request", rfl, rfl, rfl, by decide, rfl, rfl, rfl, (wg_t 183 rfl rfl), Or.inl rfl, fun h => by cases h⟩
theorem fq_Og_40 : wo_FD "EdgeCache$Origin" 40 513 9 (.object "java/lang/String") false false := ⟨8, 1, _, "EdgeCache$Request", rfl, rfl, rfl, by decide, rfl, rfl, rfl, (wg_t 188 rfl rfl), Or.inl rfl, fun h => by cases h⟩
theorem fq_Og_48 : wo_FD "EdgeCache$Origin" 48 643 11 .int false false := ⟨10, 3, _, "EdgeCache$Job", rfl, rfl, rfl, by decide, rfl, rfl, rfl, (wg_t 818 rfl rfl), Or.inl rfl, fun h => by cases h⟩
theorem fq_Og_57 : wo_FD "EdgeCache$Origin" 57 520 9 (.object "java/lang/String") false false := ⟨8, 8, _, "EdgeCache$Request", rfl, rfl, rfl, by decide, rfl, rfl, rfl, (wg_t 208 rfl rfl), Or.inl rfl, fun h => by cases h⟩
theorem fq_Og_64 : wo_FD "EdgeCache$Origin" 64 644 11 (.object "EdgeCache$Representation") false false := ⟨10, 4, _, "EdgeCache$Job", rfl, rfl, rfl, by decide, rfl, rfl, rfl, (wg_t 820 rfl rfl), Or.inl rfl, fun h => by cases h⟩
theorem fq_Og_68 : wo_FD "EdgeCache$Origin" 68 770 13 .int true false := ⟨12, 2, _, "EdgeCache$Representation", rfl, rfl, rfl, by decide, rfl, rfl, rfl, (wg_t 968 rfl rfl), Or.inl rfl, fun h => by cases h⟩
theorem fq_Og_73 : wo_FD "EdgeCache$Origin" 73 641 11 .int true false := ⟨10, 1, _, "EdgeCache$Job", rfl, rfl, rfl, by decide, rfl, rfl, rfl, (wg_t 815 rfl rfl), Or.inl rfl, fun h => by cases h⟩
theorem fq_Og_76 : wo_FD "EdgeCache$Origin" 76 521 9 (.object "java/lang/String") false false := ⟨8, 9, _, "EdgeCache$Request", rfl, rfl, rfl, by decide, rfl, rfl, rfl, (wg_t 210 rfl rfl), Or.inl rfl, fun h => by cases h⟩
theorem fq_Rd_102 : wo_FD "EdgeCache$Reader" 102 512 9 .int false false := ⟨8, 0, _, "EdgeCache$Request", rfl, rfl, rfl, by decide, rfl, rfl, rfl, (wg_t 185 rfl rfl), Or.inl rfl, fun h => by cases h⟩
theorem fq_Rd_117 : wo_FD "EdgeCache$Reader" 117 513 9 (.object "java/lang/String") false false := ⟨8, 1, _, "EdgeCache$Request", rfl, rfl, rfl, by decide, rfl, rfl, rfl, (wg_t 189 rfl rfl), Or.inl rfl, fun h => by cases h⟩
theorem fq_Rd_12 : wo_FD "EdgeCache$Reader" 12 448 8 (.object "java/lang/StringBuilder") true true := ⟨7, 0, _, "EdgeCache$Reader", rfl, rfl, rfl, by decide, rfl, rfl, rfl, (wg_t 241 rfl rfl), Or.inl rfl, fun _ => rfl⟩
theorem fq_Rd_18 : wo_FD "EdgeCache$Reader" 18 449 8 (.object "java/lang/StringBuilder") true true := ⟨7, 1, _, "EdgeCache$Reader", rfl, rfl, rfl, by decide, rfl, rfl, rfl, (wg_t 242 rfl rfl), Or.inl rfl, fun _ => rfl⟩
theorem fq_Rd_21 : wo_FD "EdgeCache$Reader" 21 450 8 (.object "java/lang/StringBuilder") true true := ⟨7, 2, _, "EdgeCache$Reader", rfl, rfl, rfl, by decide, rfl, rfl, rfl, (wg_t 243 rfl rfl), Or.inl rfl, fun _ => rfl⟩
theorem fq_Rd_27 : wo_FD "EdgeCache$Reader" 27 451 8 (.object "EdgeCache$Request") false false := ⟨7, 3, _, "EdgeCache$Reader", rfl, rfl, rfl, by decide, rfl, rfl, rfl, (wg_t 244 rfl rfl), Or.inl rfl, fun h => by cases h⟩
theorem fq_Rd_31 : wo_FD "EdgeCache$Reader" 31 452 8 .int false false := ⟨7, 4, _, "EdgeCache$Reader", rfl, rfl, rfl, by decide, rfl, rfl, rfl, (wg_t 245 rfl rfl), Or.inl rfl, fun h => by cases h⟩
theorem fq_Rd_35 : wo_FD "EdgeCache$Reader" 35 454 8 .int false false := ⟨7, 6, _, "EdgeCache$Reader", rfl, rfl, rfl, by decide, rfl, rfl, rfl, (wg_t 247 rfl rfl), Or.inl rfl, fun h => by cases h⟩
theorem fq_Rd_61 : wo_FD "EdgeCache$Reader" 61 514 9 (.object "java/lang/String") false false := ⟨8, 2, _, "EdgeCache$Request", rfl, rfl, rfl, by decide, rfl, rfl, rfl, (wg_t 193 rfl rfl), Or.inl rfl, fun h => by cases h⟩
theorem fq_Rd_64 : wo_FD "EdgeCache$Reader" 64 453 8 .int false false := ⟨7, 5, _, "EdgeCache$Reader", rfl, rfl, rfl, by decide, rfl, rfl, rfl, (wg_t 246 rfl rfl), Or.inl rfl, fun h => by cases h⟩
theorem fq_Rd_67 : wo_FD "EdgeCache$Reader" 67 455 8 .boolean false false := ⟨7, 7, _, "EdgeCache$Reader", rfl, rfl, rfl, by decide, rfl, rfl, rfl, (wg_t 248 rfl rfl), Or.inl rfl, fun h => by cases h⟩
theorem fq_Rd_71 : wo_FD "EdgeCache$Reader" 71 456 8 .int false false := ⟨7, 8, _, "EdgeCache$Reader", rfl, rfl, rfl, by decide, rfl, rfl, rfl, (wg_t 249 rfl rfl), Or.inl rfl, fun h => by cases h⟩
theorem fq_Rp_13 : wo_FD "EdgeCache$Representation" 13 769 13 (.object "java/lang/String") true true := ⟨12, 1, _, "EdgeCache$Representation", rfl, rfl, rfl, by decide, rfl, rfl, rfl, (wg_t 962 rfl rfl), Or.inl rfl, fun _ => rfl⟩
theorem fq_Rp_17 : wo_FD "EdgeCache$Representation" 17 770 13 .int true true := ⟨12, 2, _, "EdgeCache$Representation", rfl, rfl, rfl, by decide, rfl, rfl, rfl, (wg_t 966 rfl rfl), Or.inl rfl, fun _ => rfl⟩
theorem fq_Rp_21 : wo_FD "EdgeCache$Representation" 21 771 13 (.object "java/lang/String") true true := ⟨12, 3, _, "EdgeCache$Representation", rfl, rfl, rfl, by decide, rfl, rfl, rfl, (wg_t 971 rfl rfl), Or.inl rfl, fun _ => rfl⟩
theorem fq_Rp_24 : wo_FD "EdgeCache$Representation" 24 772 13 .boolean true true := ⟨12, 4, _, "EdgeCache$Representation", rfl, rfl, rfl, by decide, rfl, rfl, rfl, (wg_t 975 rfl rfl), Or.inl rfl, fun _ => rfl⟩
theorem fq_Rp_7 : wo_FD "EdgeCache$Representation" 7 768 13 .char true true := ⟨12, 0, _, "EdgeCache$Representation", rfl, rfl, rfl, by decide, rfl, rfl, rfl, (wg_t 959 rfl rfl), Or.inl rfl, fun _ => rfl⟩
theorem fq_Rq_17 : wo_FD "EdgeCache$Request" 17 513 9 (.object "java/lang/String") false false := ⟨8, 1, _, "EdgeCache$Request", rfl, rfl, rfl, by decide, rfl, rfl, rfl, (wg_t 187 rfl rfl), Or.inl rfl, fun h => by cases h⟩
theorem fq_Rq_21 : wo_FD "EdgeCache$Request" 21 514 9 (.object "java/lang/String") false false := ⟨8, 2, _, "EdgeCache$Request", rfl, rfl, rfl, by decide, rfl, rfl, rfl, (wg_t 192 rfl rfl), Or.inl rfl, fun h => by cases h⟩
theorem fq_Rq_38 : wo_FD "EdgeCache$Request" 38 515 9 (.object "java/lang/String") false false := ⟨8, 3, _, "EdgeCache$Request", rfl, rfl, rfl, by decide, rfl, rfl, rfl, (wg_t 196 rfl rfl), Or.inl rfl, fun h => by cases h⟩
theorem fq_Rq_41 : wo_FD "EdgeCache$Request" 41 516 9 (.object "java/lang/String") false false := ⟨8, 4, _, "EdgeCache$Request", rfl, rfl, rfl, by decide, rfl, rfl, rfl, (wg_t 199 rfl rfl), Or.inl rfl, fun h => by cases h⟩
theorem fq_Rq_44 : wo_FD "EdgeCache$Request" 44 517 9 (.object "java/lang/String") false false := ⟨8, 5, _, "EdgeCache$Request", rfl, rfl, rfl, by decide, rfl, rfl, rfl, (wg_t 202 rfl rfl), Or.inl rfl, fun h => by cases h⟩
theorem fq_Rq_47 : wo_FD "EdgeCache$Request" 47 518 9 (.object "java/lang/String") false false := ⟨8, 6, _, "EdgeCache$Request", rfl, rfl, rfl, by decide, rfl, rfl, rfl, (wg_t 203 rfl rfl), Or.inl rfl, fun h => by cases h⟩
theorem fq_Rq_50 : wo_FD "EdgeCache$Request" 50 519 9 (.object "java/lang/String") false false := ⟨8, 7, _, "EdgeCache$Request", rfl, rfl, rfl, by decide, rfl, rfl, rfl, (wg_t 205 rfl rfl), Or.inl rfl, fun h => by cases h⟩
theorem fq_Rq_53 : wo_FD "EdgeCache$Request" 53 520 9 (.object "java/lang/String") false false := ⟨8, 8, _, "EdgeCache$Request", rfl, rfl, rfl, by decide, rfl, rfl, rfl, (wg_t 209 rfl rfl), Or.inl rfl, fun h => by cases h⟩
theorem fq_Rq_56 : wo_FD "EdgeCache$Request" 56 521 9 (.object "java/lang/String") false false := ⟨8, 9, _, "EdgeCache$Request", rfl, rfl, rfl, by decide, rfl, rfl, rfl, (wg_t 211 rfl rfl), Or.inl rfl, fun h => by cases h⟩
theorem fq_Rq_59 : wo_FD "EdgeCache$Request" 59 522 9 (.object "java/lang/String") false false := ⟨8, 10, _, "EdgeCache$Request", rfl, rfl, rfl, by decide, rfl, rfl, rfl, (wg_t 212 rfl rfl), Or.inl rfl, fun h => by cases h⟩
theorem fq_Rq_9 : wo_FD "EdgeCache$Request" 9 512 9 .int false false := ⟨8, 0, _, "EdgeCache$Request", rfl, rfl, rfl, by decide, rfl, rfl, rfl, (wg_t 182 rfl rfl), Or.inl rfl, fun h => by cases h⟩
theorem fq_Rs_13 : wo_FD "EdgeCache$Resource" 13 705 12 (.array (.object "EdgeCache$Representation")) true true := ⟨11, 1, _, "EdgeCache$Resource", rfl, rfl, rfl, by decide, rfl, rfl, rfl, (wg_t 896 rfl rfl), Or.inl rfl, fun _ => rfl⟩
theorem fq_Rs_17 : wo_FD "EdgeCache$Resource" 17 704 12 (.object "java/lang/String") true true := ⟨11, 0, _, "EdgeCache$Resource", rfl, rfl, rfl, by decide, rfl, rfl, rfl, (wg_t 894 rfl rfl), Or.inl rfl, fun _ => rfl⟩
theorem fq_Rs_40 : wo_FD "EdgeCache$Resource" 40 768 13 .char true false := ⟨12, 0, _, "EdgeCache$Representation", rfl, rfl, rfl, by decide, rfl, rfl, rfl, (wg_t 960 rfl rfl), Or.inl rfl, fun h => by cases h⟩
theorem fq_Rs_57 : wo_FD "EdgeCache$Resource" 57 769 13 (.object "java/lang/String") true false := ⟨12, 1, _, "EdgeCache$Representation", rfl, rfl, rfl, by decide, rfl, rfl, rfl, (wg_t 965 rfl rfl), Or.inl rfl, fun h => by cases h⟩
theorem fq_Rs_60 : wo_FD "EdgeCache$Resource" 60 770 13 .int true false := ⟨12, 2, _, "EdgeCache$Representation", rfl, rfl, rfl, by decide, rfl, rfl, rfl, (wg_t 969 rfl rfl), Or.inl rfl, fun h => by cases h⟩
theorem fq_Sh_112 : wo_FD "EdgeCache$Sheet" 112 768 13 .char true false := ⟨12, 0, _, "EdgeCache$Representation", rfl, rfl, rfl, by decide, rfl, rfl, rfl, (wg_t 961 rfl rfl), Or.inl rfl, fun h => by cases h⟩
theorem fq_Sh_116 : wo_FD "EdgeCache$Sheet" 116 772 13 .boolean true false := ⟨12, 4, _, "EdgeCache$Representation", rfl, rfl, rfl, by decide, rfl, rfl, rfl, (wg_t 978 rfl rfl), Or.inl rfl, fun h => by cases h⟩
theorem fq_Sh_12 : wo_FD "EdgeCache$Sheet" 12 192 4 (.object "java/lang/StringBuilder") true true := ⟨3, 0, _, "EdgeCache$Sheet", rfl, rfl, rfl, by decide, rfl, rfl, rfl, (wg_t 119 rfl rfl), Or.inl rfl, fun _ => rfl⟩
theorem fq_Sh_122 : wo_FD "EdgeCache$Sheet" 122 771 13 (.object "java/lang/String") true false := ⟨12, 3, _, "EdgeCache$Representation", rfl, rfl, rfl, by decide, rfl, rfl, rfl, (wg_t 973 rfl rfl), Or.inl rfl, fun h => by cases h⟩
theorem fq_Sh_131 : wo_FD "EdgeCache$Sheet" 131 195 4 .int false false := ⟨3, 3, _, "EdgeCache$Sheet", rfl, rfl, rfl, by decide, rfl, rfl, rfl, (wg_t 122 rfl rfl), Or.inl rfl, fun h => by cases h⟩
theorem fq_Sh_153 : wo_FD "EdgeCache$Sheet" 153 518 9 (.object "java/lang/String") false false := ⟨8, 6, _, "EdgeCache$Request", rfl, rfl, rfl, by decide, rfl, rfl, rfl, (wg_t 204 rfl rfl), Or.inl rfl, fun h => by cases h⟩
theorem fq_Sh_18 : wo_FD "EdgeCache$Sheet" 18 193 4 (.array .int) true true := ⟨3, 1, _, "EdgeCache$Sheet", rfl, rfl, rfl, by decide, rfl, rfl, rfl, (wg_t 120 rfl rfl), Or.inl rfl, fun _ => rfl⟩
theorem fq_Sh_22 : wo_FD "EdgeCache$Sheet" 22 194 4 (.array .int) true true := ⟨3, 2, _, "EdgeCache$Sheet", rfl, rfl, rfl, by decide, rfl, rfl, rfl, (wg_t 121 rfl rfl), Or.inl rfl, fun _ => rfl⟩
theorem fq_Sh_41 : wo_FD "EdgeCache$Sheet" 41 515 9 (.object "java/lang/String") false false := ⟨8, 3, _, "EdgeCache$Request", rfl, rfl, rfl, by decide, rfl, rfl, rfl, (wg_t 195 rfl rfl), Or.inl rfl, fun h => by cases h⟩
theorem fq_Sh_47 : wo_FD "EdgeCache$Sheet" 47 770 13 .int true false := ⟨12, 2, _, "EdgeCache$Representation", rfl, rfl, rfl, by decide, rfl, rfl, rfl, (wg_t 967 rfl rfl), Or.inl rfl, fun h => by cases h⟩
theorem fq_Sh_63 : wo_FD "EdgeCache$Sheet" 63 516 9 (.object "java/lang/String") false false := ⟨8, 4, _, "EdgeCache$Request", rfl, rfl, rfl, by decide, rfl, rfl, rfl, (wg_t 198 rfl rfl), Or.inl rfl, fun h => by cases h⟩
theorem fq_Sh_74 : wo_FD "EdgeCache$Sheet" 74 517 9 (.object "java/lang/String") false false := ⟨8, 5, _, "EdgeCache$Request", rfl, rfl, rfl, by decide, rfl, rfl, rfl, (wg_t 201 rfl rfl), Or.inl rfl, fun h => by cases h⟩
theorem fq_Sh_77 : wo_FD "EdgeCache$Sheet" 77 769 13 (.object "java/lang/String") true false := ⟨12, 1, _, "EdgeCache$Representation", rfl, rfl, rfl, by decide, rfl, rfl, rfl, (wg_t 963 rfl rfl), Or.inl rfl, fun h => by cases h⟩
theorem fq_Sh_93 : wo_FD "EdgeCache$Sheet" 93 512 9 .int false false := ⟨8, 0, _, "EdgeCache$Request", rfl, rfl, rfl, by decide, rfl, rfl, rfl, (wg_t 184 rfl rfl), Or.inl rfl, fun h => by cases h⟩
theorem fq_So_10 : wo_FD "EdgeCache$Store" 10 320 6 (.object "java/util/ArrayList") true true := ⟨5, 0, _, "EdgeCache$Store", rfl, rfl, rfl, by decide, rfl, rfl, rfl, (wg_t 151 rfl rfl), Or.inl rfl, fun _ => rfl⟩
theorem fq_So_16 : wo_FD "EdgeCache$Store" 16 321 6 .int true true := ⟨5, 1, _, "EdgeCache$Store", rfl, rfl, rfl, by decide, rfl, rfl, rfl, (wg_t 152 rfl rfl), Or.inl rfl, fun _ => rfl⟩
theorem fq_So_41 : wo_FD "EdgeCache$Store" 41 833 14 (.object "java/lang/String") true false := ⟨13, 1, _, "EdgeCache$Stored", rfl, rfl, rfl, by decide, rfl, rfl, rfl, (wg_t 1237 rfl rfl), Or.inl rfl, fun h => by cases h⟩
theorem fq_So_54 : wo_FD "EdgeCache$Store" 54 513 9 (.object "java/lang/String") false false := ⟨8, 1, _, "EdgeCache$Request", rfl, rfl, rfl, by decide, rfl, rfl, rfl, (wg_t 190 rfl rfl), Or.inl rfl, fun h => by cases h⟩
theorem fq_So_57 : wo_FD "EdgeCache$Store" 57 832 14 (.object "EdgeCache$Representation") true false := ⟨13, 0, _, "EdgeCache$Stored", rfl, rfl, rfl, by decide, rfl, rfl, rfl, (wg_t 1234 rfl rfl), Or.inl rfl, fun h => by cases h⟩
theorem fq_So_61 : wo_FD "EdgeCache$Store" 61 772 13 .boolean true false := ⟨12, 4, _, "EdgeCache$Representation", rfl, rfl, rfl, by decide, rfl, rfl, rfl, (wg_t 977 rfl rfl), Or.inl rfl, fun h => by cases h⟩
theorem fq_So_67 : wo_FD "EdgeCache$Store" 67 836 14 .int true false := ⟨13, 4, _, "EdgeCache$Stored", rfl, rfl, rfl, by decide, rfl, rfl, rfl, (wg_t 1242 rfl rfl), Or.inl rfl, fun h => by cases h⟩
theorem fq_So_69 : wo_FD "EdgeCache$Store" 69 322 6 .int false false := ⟨5, 2, _, "EdgeCache$Store", rfl, rfl, rfl, by decide, rfl, rfl, rfl, (wg_t 153 rfl rfl), Or.inl rfl, fun h => by cases h⟩
theorem fq_Sd_13 : wo_FD "EdgeCache$Stored" 13 513 9 (.object "java/lang/String") false false := ⟨8, 1, _, "EdgeCache$Request", rfl, rfl, rfl, by decide, rfl, rfl, rfl, (wg_t 186 rfl rfl), Or.inl rfl, fun h => by cases h⟩
theorem fq_Sd_19 : wo_FD "EdgeCache$Stored" 19 833 14 (.object "java/lang/String") true true := ⟨13, 1, _, "EdgeCache$Stored", rfl, rfl, rfl, by decide, rfl, rfl, rfl, (wg_t 1236 rfl rfl), Or.inl rfl, fun _ => rfl⟩
theorem fq_Sd_20 : wo_FD "EdgeCache$Stored" 20 520 9 (.object "java/lang/String") false false := ⟨8, 8, _, "EdgeCache$Request", rfl, rfl, rfl, by decide, rfl, rfl, rfl, (wg_t 207 rfl rfl), Or.inl rfl, fun h => by cases h⟩
theorem fq_Sd_23 : wo_FD "EdgeCache$Stored" 23 834 14 (.object "java/lang/String") true true := ⟨13, 2, _, "EdgeCache$Stored", rfl, rfl, rfl, by decide, rfl, rfl, rfl, (wg_t 1238 rfl rfl), Or.inl rfl, fun _ => rfl⟩
theorem fq_Sd_24 : wo_FD "EdgeCache$Stored" 24 835 14 .int true true := ⟨13, 3, _, "EdgeCache$Stored", rfl, rfl, rfl, by decide, rfl, rfl, rfl, (wg_t 1239 rfl rfl), Or.inl rfl, fun _ => rfl⟩
theorem fq_Sd_28 : wo_FD "EdgeCache$Stored" 28 836 14 .int true true := ⟨13, 4, _, "EdgeCache$Stored", rfl, rfl, rfl, by decide, rfl, rfl, rfl, (wg_t 1241 rfl rfl), Or.inl rfl, fun _ => rfl⟩
theorem fq_Sd_37 : wo_FD "EdgeCache$Stored" 37 772 13 .boolean true false := ⟨12, 4, _, "EdgeCache$Representation", rfl, rfl, rfl, by decide, rfl, rfl, rfl, (wg_t 976 rfl rfl), Or.inl rfl, fun h => by cases h⟩
theorem fq_Sd_47 : wo_FD "EdgeCache$Stored" 47 771 13 (.object "java/lang/String") true false := ⟨12, 3, _, "EdgeCache$Representation", rfl, rfl, rfl, by decide, rfl, rfl, rfl, (wg_t 972 rfl rfl), Or.inl rfl, fun h => by cases h⟩
theorem fq_Sd_7 : wo_FD "EdgeCache$Stored" 7 832 14 (.object "EdgeCache$Representation") true true := ⟨13, 0, _, "EdgeCache$Stored", rfl, rfl, rfl, by decide, rfl, rfl, rfl, (wg_t 1233 rfl rfl), Or.inl rfl, fun _ => rfl⟩
theorem fq_EC_102 : wo_FD "EdgeCache" 102 642 11 .int false false := ⟨10, 2, _, "EdgeCache$Job", rfl, rfl, rfl, by decide, rfl, rfl, rfl, (wg_t 816 rfl rfl), Or.inl rfl, fun h => by cases h⟩
theorem fq_EC_105 : wo_FD "EdgeCache" 105 640 11 (.object "EdgeCache$Request") true false := ⟨10, 0, _, "EdgeCache$Job", rfl, rfl, rfl, by decide, rfl, rfl, rfl, (wg_t 813 rfl rfl), Or.inl rfl, fun h => by cases h⟩
theorem fq_EC_11 : wo_FD "EdgeCache" 11 0 1 (.array (.object "EdgeCache$Connection")) true true := ⟨0, 0, _, "EdgeCache", rfl, rfl, rfl, by decide, rfl, rfl, rfl, (wg_t 297 rfl rfl), Or.inl rfl, fun _ => rfl⟩
theorem fq_EC_113 : wo_FD "EdgeCache" 113 523 9 (.object "java/lang/String") false false := ⟨8, 11, _, "EdgeCache$Request", rfl, rfl, rfl, by decide, rfl, rfl, rfl, (wg_t 215 rfl rfl), Or.inl rfl, fun h => by cases h⟩
theorem fq_EC_136 : wo_FD "EdgeCache" 136 643 11 .int false false := ⟨10, 3, _, "EdgeCache$Job", rfl, rfl, rfl, by decide, rfl, rfl, rfl, (wg_t 819 rfl rfl), Or.inl rfl, fun h => by cases h⟩
theorem fq_EC_149 : wo_FD "EdgeCache" 149 513 9 (.object "java/lang/String") false false := ⟨8, 1, _, "EdgeCache$Request", rfl, rfl, rfl, by decide, rfl, rfl, rfl, (wg_t 191 rfl rfl), Or.inl rfl, fun h => by cases h⟩
theorem fq_EC_169 : wo_FD "EdgeCache" 169 322 6 .int false false := ⟨5, 2, _, "EdgeCache$Store", rfl, rfl, rfl, by decide, rfl, rfl, rfl, (wg_t 154 rfl rfl), Or.inl rfl, fun h => by cases h⟩
theorem fq_EC_172 : wo_FD "EdgeCache" 172 65 2 .int false false := ⟨1, 1, _, "EdgeCache$Origin", rfl, rfl, rfl, by decide, rfl, rfl, rfl, (wg_t 74 rfl rfl), Or.inl rfl, fun h => by cases h⟩
theorem fq_EC_18 : wo_FD "EdgeCache" 18 1 1 (.object "EdgeCache$Origin") true true := ⟨0, 1, _, "EdgeCache", rfl, rfl, rfl, by decide, rfl, rfl, rfl, (wg_t 298 rfl rfl), Or.inl rfl, fun _ => rfl⟩
theorem fq_EC_202 : wo_FD "EdgeCache" 202 832 14 (.object "EdgeCache$Representation") true false := ⟨13, 0, _, "EdgeCache$Stored", rfl, rfl, rfl, by decide, rfl, rfl, rfl, (wg_t 1235 rfl rfl), Or.inl rfl, fun h => by cases h⟩
theorem fq_EC_208 : wo_FD "EdgeCache" 208 835 14 .int true false := ⟨13, 3, _, "EdgeCache$Stored", rfl, rfl, rfl, by decide, rfl, rfl, rfl, (wg_t 1240 rfl rfl), Or.inl rfl, fun h => by cases h⟩
theorem fq_EC_215 : wo_FD "EdgeCache" 215 770 13 .int true false := ⟨12, 2, _, "EdgeCache$Representation", rfl, rfl, rfl, by decide, rfl, rfl, rfl, (wg_t 970 rfl rfl), Or.inl rfl, fun h => by cases h⟩
theorem fq_EC_224 : wo_FD "EdgeCache" 224 771 13 (.object "java/lang/String") true false := ⟨12, 3, _, "EdgeCache$Representation", rfl, rfl, rfl, by decide, rfl, rfl, rfl, (wg_t 974 rfl rfl), Or.inl rfl, fun h => by cases h⟩
theorem fq_EC_236 : wo_FD "EdgeCache" 236 519 9 (.object "java/lang/String") false false := ⟨8, 7, _, "EdgeCache$Request", rfl, rfl, rfl, by decide, rfl, rfl, rfl, (wg_t 206 rfl rfl), Or.inl rfl, fun h => by cases h⟩
theorem fq_EC_243 : wo_FD "EdgeCache" 243 644 11 (.object "EdgeCache$Representation") false false := ⟨10, 4, _, "EdgeCache$Job", rfl, rfl, rfl, by decide, rfl, rfl, rfl, (wg_t 821 rfl rfl), Or.inl rfl, fun h => by cases h⟩
theorem fq_EC_246 : wo_FD "EdgeCache" 246 645 11 .int false false := ⟨10, 5, _, "EdgeCache$Job", rfl, rfl, rfl, by decide, rfl, rfl, rfl, (wg_t 823 rfl rfl), Or.inl rfl, fun h => by cases h⟩
theorem fq_EC_25 : wo_FD "EdgeCache" 25 3 1 (.object "EdgeCache$Sheet") true true := ⟨0, 3, _, "EdgeCache", rfl, rfl, rfl, by decide, rfl, rfl, rfl, (wg_t 300 rfl rfl), Or.inl rfl, fun _ => rfl⟩
theorem fq_EC_252 : wo_FD "EdgeCache" 252 646 11 .boolean false false := ⟨10, 6, _, "EdgeCache$Job", rfl, rfl, rfl, by decide, rfl, rfl, rfl, (wg_t 824 rfl rfl), Or.inl rfl, fun h => by cases h⟩
theorem fq_EC_255 : wo_FD "EdgeCache" 255 772 13 .boolean true false := ⟨12, 4, _, "EdgeCache$Representation", rfl, rfl, rfl, by decide, rfl, rfl, rfl, (wg_t 979 rfl rfl), Or.inl rfl, fun h => by cases h⟩
theorem fq_EC_31 : wo_FD "EdgeCache" 31 4 1 (.array (.object "EdgeCache$Job")) true true := ⟨0, 4, _, "EdgeCache", rfl, rfl, rfl, by decide, rfl, rfl, rfl, (wg_t 301 rfl rfl), Or.inl rfl, fun _ => rfl⟩
theorem fq_EC_38 : wo_FD "EdgeCache" 38 5 1 (.object "java/util/ArrayList") true true := ⟨0, 5, _, "EdgeCache", rfl, rfl, rfl, by decide, rfl, rfl, rfl, (wg_t 302 rfl rfl), Or.inl rfl, fun _ => rfl⟩
theorem fq_EC_56 : wo_FD "EdgeCache" 56 2 1 (.object "EdgeCache$Store") true true := ⟨0, 2, _, "EdgeCache", rfl, rfl, rfl, by decide, rfl, rfl, rfl, (wg_t 299 rfl rfl), Or.inl rfl, fun _ => rfl⟩
theorem fq_EC_69 : wo_FD "EdgeCache" 69 384 7 (.object "EdgeCache$Reader") true false := ⟨6, 0, _, "EdgeCache$Connection", rfl, rfl, rfl, by decide, rfl, rfl, rfl, (wg_t 272 rfl rfl), Or.inl rfl, fun h => by cases h⟩
theorem fq_EC_87 : wo_FD "EdgeCache" 87 389 7 .int false false := ⟨6, 5, _, "EdgeCache$Connection", rfl, rfl, rfl, by decide, rfl, rfl, rfl, (wg_t 278 rfl rfl), Or.inl rfl, fun h => by cases h⟩
theorem fq_EC_95 : wo_FD "EdgeCache" 95 390 7 .boolean false false := ⟨6, 6, _, "EdgeCache$Connection", rfl, rfl, rfl, by decide, rfl, rfl, rfl, (wg_t 280 rfl rfl), Or.inl rfl, fun h => by cases h⟩
theorem fq_EC_99 : wo_FD "EdgeCache" 99 6 1 .int false false := ⟨0, 6, _, "EdgeCache", rfl, rfl, rfl, by decide, rfl, rfl, rfl, (wg_t 303 rfl rfl), Or.inl rfl, fun h => by cases h⟩
theorem fq_Md_102 : wo_FD "EdgeCacheModel" 102 930 15 (.array .long) false false := ⟨14, 34, _, "EdgeCacheModel", rfl, rfl, rfl, by decide, rfl, rfl, rfl, (wg_t 1338 rfl rfl), Or.inl rfl, fun h => by cases h⟩
theorem fq_Md_105 : wo_FD "EdgeCacheModel" 105 931 15 (.array .int) false false := ⟨14, 35, _, "EdgeCacheModel", rfl, rfl, rfl, by decide, rfl, rfl, rfl, (wg_t 1339 rfl rfl), Or.inl rfl, fun h => by cases h⟩
theorem fq_Md_108 : wo_FD "EdgeCacheModel" 108 932 15 (.array .int) false false := ⟨14, 36, _, "EdgeCacheModel", rfl, rfl, rfl, by decide, rfl, rfl, rfl, (wg_t 1340 rfl rfl), Or.inl rfl, fun h => by cases h⟩
theorem fq_Md_111 : wo_FD "EdgeCacheModel" 111 933 15 (.array .long) false false := ⟨14, 37, _, "EdgeCacheModel", rfl, rfl, rfl, by decide, rfl, rfl, rfl, (wg_t 1341 rfl rfl), Or.inl rfl, fun h => by cases h⟩
theorem fq_Md_114 : wo_FD "EdgeCacheModel" 114 934 15 (.array .int) false false := ⟨14, 38, _, "EdgeCacheModel", rfl, rfl, rfl, by decide, rfl, rfl, rfl, (wg_t 1342 rfl rfl), Or.inl rfl, fun h => by cases h⟩
theorem fq_Md_117 : wo_FD "EdgeCacheModel" 117 935 15 (.array .boolean) false false := ⟨14, 39, _, "EdgeCacheModel", rfl, rfl, rfl, by decide, rfl, rfl, rfl, (wg_t 1343 rfl rfl), Or.inl rfl, fun h => by cases h⟩
theorem fq_Md_120 : wo_FD "EdgeCacheModel" 120 936 15 (.array .boolean) false false := ⟨14, 40, _, "EdgeCacheModel", rfl, rfl, rfl, by decide, rfl, rfl, rfl, (wg_t 1344 rfl rfl), Or.inl rfl, fun h => by cases h⟩
theorem fq_Md_123 : wo_FD "EdgeCacheModel" 123 937 15 (.array .long) false false := ⟨14, 41, _, "EdgeCacheModel", rfl, rfl, rfl, by decide, rfl, rfl, rfl, (wg_t 1345 rfl rfl), Or.inl rfl, fun h => by cases h⟩
theorem fq_Md_126 : wo_FD "EdgeCacheModel" 126 938 15 (.array .int) false false := ⟨14, 42, _, "EdgeCacheModel", rfl, rfl, rfl, by decide, rfl, rfl, rfl, (wg_t 1346 rfl rfl), Or.inl rfl, fun h => by cases h⟩
theorem fq_Md_129 : wo_FD "EdgeCacheModel" 129 939 15 (.array .long) false false := ⟨14, 43, _, "EdgeCacheModel", rfl, rfl, rfl, by decide, rfl, rfl, rfl, (wg_t 1347 rfl rfl), Or.inl rfl, fun h => by cases h⟩
theorem fq_Md_13 : wo_FD "EdgeCacheModel" 13 897 15 (.array .int) false false := ⟨14, 1, _, "EdgeCacheModel", rfl, rfl, rfl, by decide, rfl, rfl, rfl, (wg_t 1305 rfl rfl), Or.inl rfl, fun h => by cases h⟩
theorem fq_Md_132 : wo_FD "EdgeCacheModel" 132 940 15 (.array .int) false false := ⟨14, 44, _, "EdgeCacheModel", rfl, rfl, rfl, by decide, rfl, rfl, rfl, (wg_t 1348 rfl rfl), Or.inl rfl, fun h => by cases h⟩
theorem fq_Md_135 : wo_FD "EdgeCacheModel" 135 941 15 (.array .int) false false := ⟨14, 45, _, "EdgeCacheModel", rfl, rfl, rfl, by decide, rfl, rfl, rfl, (wg_t 1349 rfl rfl), Or.inl rfl, fun h => by cases h⟩
theorem fq_Md_138 : wo_FD "EdgeCacheModel" 138 942 15 (.array .int) false false := ⟨14, 46, _, "EdgeCacheModel", rfl, rfl, rfl, by decide, rfl, rfl, rfl, (wg_t 1350 rfl rfl), Or.inl rfl, fun h => by cases h⟩
theorem fq_Md_141 : wo_FD "EdgeCacheModel" 141 943 15 (.array .int) false false := ⟨14, 47, _, "EdgeCacheModel", rfl, rfl, rfl, by decide, rfl, rfl, rfl, (wg_t 1351 rfl rfl), Or.inl rfl, fun h => by cases h⟩
theorem fq_Md_144 : wo_FD "EdgeCacheModel" 144 945 15 (.array .boolean) false false := ⟨14, 49, _, "EdgeCacheModel", rfl, rfl, rfl, by decide, rfl, rfl, rfl, (wg_t 1353 rfl rfl), Or.inl rfl, fun h => by cases h⟩
theorem fq_Md_147 : wo_FD "EdgeCacheModel" 147 946 15 (.array .long) false false := ⟨14, 50, _, "EdgeCacheModel", rfl, rfl, rfl, by decide, rfl, rfl, rfl, (wg_t 1354 rfl rfl), Or.inl rfl, fun h => by cases h⟩
theorem fq_Md_150 : wo_FD "EdgeCacheModel" 150 947 15 (.array .int) false false := ⟨14, 51, _, "EdgeCacheModel", rfl, rfl, rfl, by decide, rfl, rfl, rfl, (wg_t 1355 rfl rfl), Or.inl rfl, fun h => by cases h⟩
theorem fq_Md_153 : wo_FD "EdgeCacheModel" 153 948 15 (.array .long) false false := ⟨14, 52, _, "EdgeCacheModel", rfl, rfl, rfl, by decide, rfl, rfl, rfl, (wg_t 1356 rfl rfl), Or.inl rfl, fun h => by cases h⟩
theorem fq_Md_156 : wo_FD "EdgeCacheModel" 156 949 15 (.array .int) false false := ⟨14, 53, _, "EdgeCacheModel", rfl, rfl, rfl, by decide, rfl, rfl, rfl, (wg_t 1357 rfl rfl), Or.inl rfl, fun h => by cases h⟩
theorem fq_Md_159 : wo_FD "EdgeCacheModel" 159 950 15 (.array .long) false false := ⟨14, 54, _, "EdgeCacheModel", rfl, rfl, rfl, by decide, rfl, rfl, rfl, (wg_t 1358 rfl rfl), Or.inl rfl, fun h => by cases h⟩
theorem fq_Md_16 : wo_FD "EdgeCacheModel" 16 898 15 (.array .boolean) false false := ⟨14, 2, _, "EdgeCacheModel", rfl, rfl, rfl, by decide, rfl, rfl, rfl, (wg_t 1306 rfl rfl), Or.inl rfl, fun h => by cases h⟩
theorem fq_Md_162 : wo_FD "EdgeCacheModel" 162 951 15 (.array .int) false false := ⟨14, 55, _, "EdgeCacheModel", rfl, rfl, rfl, by decide, rfl, rfl, rfl, (wg_t 1359 rfl rfl), Or.inl rfl, fun h => by cases h⟩
theorem fq_Md_165 : wo_FD "EdgeCacheModel" 165 952 15 (.array .int) false false := ⟨14, 56, _, "EdgeCacheModel", rfl, rfl, rfl, by decide, rfl, rfl, rfl, (wg_t 1360 rfl rfl), Or.inl rfl, fun h => by cases h⟩
theorem fq_Md_168 : wo_FD "EdgeCacheModel" 168 953 15 (.array .int) false false := ⟨14, 57, _, "EdgeCacheModel", rfl, rfl, rfl, by decide, rfl, rfl, rfl, (wg_t 1361 rfl rfl), Or.inl rfl, fun h => by cases h⟩
theorem fq_Md_171 : wo_FD "EdgeCacheModel" 171 954 15 (.array .int) false false := ⟨14, 58, _, "EdgeCacheModel", rfl, rfl, rfl, by decide, rfl, rfl, rfl, (wg_t 1362 rfl rfl), Or.inl rfl, fun h => by cases h⟩
theorem fq_Md_174 : wo_FD "EdgeCacheModel" 174 955 15 .int false false := ⟨14, 59, _, "EdgeCacheModel", rfl, rfl, rfl, by decide, rfl, rfl, rfl, (wg_t 1363 rfl rfl), Or.inl rfl, fun h => by cases h⟩
theorem fq_Md_20 : wo_FD "EdgeCacheModel" 20 899 15 (.array .int) false false := ⟨14, 3, _, "EdgeCacheModel", rfl, rfl, rfl, by decide, rfl, rfl, rfl, (wg_t 1307 rfl rfl), Or.inl rfl, fun h => by cases h⟩
theorem fq_Md_209 : wo_FD "EdgeCacheModel" 209 914 15 .int false false := ⟨14, 18, _, "EdgeCacheModel", rfl, rfl, rfl, by decide, rfl, rfl, rfl, (wg_t 1322 rfl rfl), Or.inl rfl, fun h => by cases h⟩
theorem fq_Md_212 : wo_FD "EdgeCacheModel" 212 915 15 .boolean false false := ⟨14, 19, _, "EdgeCacheModel", rfl, rfl, rfl, by decide, rfl, rfl, rfl, (wg_t 1323 rfl rfl), Or.inl rfl, fun h => by cases h⟩
theorem fq_Md_23 : wo_FD "EdgeCacheModel" 23 900 15 (.array .int) false false := ⟨14, 4, _, "EdgeCacheModel", rfl, rfl, rfl, by decide, rfl, rfl, rfl, (wg_t 1308 rfl rfl), Or.inl rfl, fun h => by cases h⟩
theorem fq_Md_26 : wo_FD "EdgeCacheModel" 26 901 15 (.array .int) false false := ⟨14, 5, _, "EdgeCacheModel", rfl, rfl, rfl, by decide, rfl, rfl, rfl, (wg_t 1309 rfl rfl), Or.inl rfl, fun h => by cases h⟩
theorem fq_Md_267 : wo_FD "EdgeCacheModel" 267 906 15 .int false false := ⟨14, 10, _, "EdgeCacheModel", rfl, rfl, rfl, by decide, rfl, rfl, rfl, (wg_t 1314 rfl rfl), Or.inl rfl, fun h => by cases h⟩
theorem fq_Md_29 : wo_FD "EdgeCacheModel" 29 902 15 (.array .int) false false := ⟨14, 6, _, "EdgeCacheModel", rfl, rfl, rfl, by decide, rfl, rfl, rfl, (wg_t 1310 rfl rfl), Or.inl rfl, fun h => by cases h⟩
theorem fq_Md_32 : wo_FD "EdgeCacheModel" 32 903 15 (.array .int) false false := ⟨14, 7, _, "EdgeCacheModel", rfl, rfl, rfl, by decide, rfl, rfl, rfl, (wg_t 1311 rfl rfl), Or.inl rfl, fun h => by cases h⟩
theorem fq_Md_331 : wo_FD "EdgeCacheModel" 331 957 15 .int false false := ⟨14, 61, _, "EdgeCacheModel", rfl, rfl, rfl, by decide, rfl, rfl, rfl, (wg_t 1365 rfl rfl), Or.inl rfl, fun h => by cases h⟩
theorem fq_Md_349 : wo_FD "EdgeCacheModel" 349 956 15 .int false false := ⟨14, 60, _, "EdgeCacheModel", rfl, rfl, rfl, by decide, rfl, rfl, rfl, (wg_t 1364 rfl rfl), Or.inl rfl, fun h => by cases h⟩
theorem fq_Md_35 : wo_FD "EdgeCacheModel" 35 904 15 (.array .int) false false := ⟨14, 8, _, "EdgeCacheModel", rfl, rfl, rfl, by decide, rfl, rfl, rfl, (wg_t 1312 rfl rfl), Or.inl rfl, fun h => by cases h⟩
theorem fq_Md_361 : wo_FD "EdgeCacheModel" 361 944 15 .int false false := ⟨14, 48, _, "EdgeCacheModel", rfl, rfl, rfl, by decide, rfl, rfl, rfl, (wg_t 1352 rfl rfl), Or.inl rfl, fun h => by cases h⟩
theorem fq_Md_364 : wo_FD "EdgeCacheModel" 364 928 15 .int false false := ⟨14, 32, _, "EdgeCacheModel", rfl, rfl, rfl, by decide, rfl, rfl, rfl, (wg_t 1336 rfl rfl), Or.inl rfl, fun h => by cases h⟩
theorem fq_Md_38 : wo_FD "EdgeCacheModel" 38 905 15 (.array .int) false false := ⟨14, 9, _, "EdgeCacheModel", rfl, rfl, rfl, by decide, rfl, rfl, rfl, (wg_t 1313 rfl rfl), Or.inl rfl, fun h => by cases h⟩
theorem fq_Md_41 : wo_FD "EdgeCacheModel" 41 907 15 (.array .int) false false := ⟨14, 11, _, "EdgeCacheModel", rfl, rfl, rfl, by decide, rfl, rfl, rfl, (wg_t 1315 rfl rfl), Or.inl rfl, fun h => by cases h⟩
theorem fq_Md_44 : wo_FD "EdgeCacheModel" 44 908 15 (.array .long) false false := ⟨14, 12, _, "EdgeCacheModel", rfl, rfl, rfl, by decide, rfl, rfl, rfl, (wg_t 1316 rfl rfl), Or.inl rfl, fun h => by cases h⟩
theorem fq_Md_48 : wo_FD "EdgeCacheModel" 48 909 15 (.array .int) false false := ⟨14, 13, _, "EdgeCacheModel", rfl, rfl, rfl, by decide, rfl, rfl, rfl, (wg_t 1317 rfl rfl), Or.inl rfl, fun h => by cases h⟩
theorem fq_Md_51 : wo_FD "EdgeCacheModel" 51 910 15 (.array .long) false false := ⟨14, 14, _, "EdgeCacheModel", rfl, rfl, rfl, by decide, rfl, rfl, rfl, (wg_t 1318 rfl rfl), Or.inl rfl, fun h => by cases h⟩
theorem fq_Md_54 : wo_FD "EdgeCacheModel" 54 911 15 (.array .int) false false := ⟨14, 15, _, "EdgeCacheModel", rfl, rfl, rfl, by decide, rfl, rfl, rfl, (wg_t 1319 rfl rfl), Or.inl rfl, fun h => by cases h⟩
theorem fq_Md_57 : wo_FD "EdgeCacheModel" 57 912 15 (.array .long) false false := ⟨14, 16, _, "EdgeCacheModel", rfl, rfl, rfl, by decide, rfl, rfl, rfl, (wg_t 1320 rfl rfl), Or.inl rfl, fun h => by cases h⟩
theorem fq_Md_60 : wo_FD "EdgeCacheModel" 60 913 15 (.array .int) false false := ⟨14, 17, _, "EdgeCacheModel", rfl, rfl, rfl, by decide, rfl, rfl, rfl, (wg_t 1321 rfl rfl), Or.inl rfl, fun h => by cases h⟩
theorem fq_Md_63 : wo_FD "EdgeCacheModel" 63 916 15 (.array .int) false false := ⟨14, 20, _, "EdgeCacheModel", rfl, rfl, rfl, by decide, rfl, rfl, rfl, (wg_t 1324 rfl rfl), Or.inl rfl, fun h => by cases h⟩
theorem fq_Md_66 : wo_FD "EdgeCacheModel" 66 917 15 (.array .int) false false := ⟨14, 21, _, "EdgeCacheModel", rfl, rfl, rfl, by decide, rfl, rfl, rfl, (wg_t 1325 rfl rfl), Or.inl rfl, fun h => by cases h⟩
theorem fq_Md_69 : wo_FD "EdgeCacheModel" 69 918 15 (.array .int) false false := ⟨14, 22, _, "EdgeCacheModel", rfl, rfl, rfl, by decide, rfl, rfl, rfl, (wg_t 1326 rfl rfl), Or.inl rfl, fun h => by cases h⟩
theorem fq_Md_7 : wo_FD "EdgeCacheModel" 7 896 15 (.array .int) false false := ⟨14, 0, _, "EdgeCacheModel", rfl, rfl, rfl, by decide, rfl, rfl, rfl, (wg_t 1304 rfl rfl), Or.inl rfl, fun h => by cases h⟩
theorem fq_Md_72 : wo_FD "EdgeCacheModel" 72 919 15 (.array .int) false false := ⟨14, 23, _, "EdgeCacheModel", rfl, rfl, rfl, by decide, rfl, rfl, rfl, (wg_t 1327 rfl rfl), Or.inl rfl, fun h => by cases h⟩
theorem fq_Md_75 : wo_FD "EdgeCacheModel" 75 920 15 (.array .int) false false := ⟨14, 24, _, "EdgeCacheModel", rfl, rfl, rfl, by decide, rfl, rfl, rfl, (wg_t 1328 rfl rfl), Or.inl rfl, fun h => by cases h⟩
theorem fq_Md_78 : wo_FD "EdgeCacheModel" 78 921 15 (.array .int) false false := ⟨14, 25, _, "EdgeCacheModel", rfl, rfl, rfl, by decide, rfl, rfl, rfl, (wg_t 1329 rfl rfl), Or.inl rfl, fun h => by cases h⟩
theorem fq_Md_81 : wo_FD "EdgeCacheModel" 81 922 15 (.array .int) false false := ⟨14, 26, _, "EdgeCacheModel", rfl, rfl, rfl, by decide, rfl, rfl, rfl, (wg_t 1330 rfl rfl), Or.inl rfl, fun h => by cases h⟩
theorem fq_Md_84 : wo_FD "EdgeCacheModel" 84 923 15 (.array .int) false false := ⟨14, 27, _, "EdgeCacheModel", rfl, rfl, rfl, by decide, rfl, rfl, rfl, (wg_t 1331 rfl rfl), Or.inl rfl, fun h => by cases h⟩
theorem fq_Md_87 : wo_FD "EdgeCacheModel" 87 924 15 (.array .boolean) false false := ⟨14, 28, _, "EdgeCacheModel", rfl, rfl, rfl, by decide, rfl, rfl, rfl, (wg_t 1332 rfl rfl), Or.inl rfl, fun h => by cases h⟩
theorem fq_Md_90 : wo_FD "EdgeCacheModel" 90 925 15 (.array .boolean) false false := ⟨14, 29, _, "EdgeCacheModel", rfl, rfl, rfl, by decide, rfl, rfl, rfl, (wg_t 1333 rfl rfl), Or.inl rfl, fun h => by cases h⟩
theorem fq_Md_93 : wo_FD "EdgeCacheModel" 93 926 15 (.array .int) false false := ⟨14, 30, _, "EdgeCacheModel", rfl, rfl, rfl, by decide, rfl, rfl, rfl, (wg_t 1334 rfl rfl), Or.inl rfl, fun h => by cases h⟩
theorem fq_Md_96 : wo_FD "EdgeCacheModel" 96 927 15 (.array .int) false false := ⟨14, 31, _, "EdgeCacheModel", rfl, rfl, rfl, by decide, rfl, rfl, rfl, (wg_t 1335 rfl rfl), Or.inl rfl, fun h => by cases h⟩
theorem fq_Md_99 : wo_FD "EdgeCacheModel" 99 929 15 (.array .int) false false := ⟨14, 33, _, "EdgeCacheModel", rfl, rfl, rfl, by decide, rfl, rfl, rfl, (wg_t 1337 rfl rfl), Or.inl rfl, fun h => by cases h⟩
theorem fq_AB_15 : wo_FD "java/lang/AbstractStringBuilder" 15 256 5 (.array .byte) false false := ⟨4, 0, _, "java/lang/AbstractStringBuilder", rfl, rfl, rfl, by decide, rfl, rfl, rfl, (wg_t 104 rfl rfl), Or.inl rfl, fun h => by cases h⟩
theorem fq_AB_22 : wo_FD "java/lang/AbstractStringBuilder" 22 257 5 .byte false false := ⟨4, 1, _, "java/lang/AbstractStringBuilder", rfl, rfl, rfl, by decide, rfl, rfl, rfl, (wg_t 105 rfl rfl), Or.inl rfl, fun h => by cases h⟩
theorem fq_AB_73 : wo_FD "java/lang/AbstractStringBuilder" 73 258 5 .boolean false false := ⟨4, 2, _, "java/lang/AbstractStringBuilder", rfl, rfl, rfl, by decide, rfl, rfl, rfl, (wg_t 106 rfl rfl), Or.inl rfl, fun h => by cases h⟩
theorem fq_AB_79 : wo_FD "java/lang/AbstractStringBuilder" 79 259 5 .int false false := ⟨4, 3, _, "java/lang/AbstractStringBuilder", rfl, rfl, rfl, by decide, rfl, rfl, rfl, (wg_t 108 rfl rfl), Or.inl rfl, fun h => by cases h⟩
theorem fq_St_1048 : wo_FD "java/lang/String" 1048 258 5 .boolean false false := ⟨4, 2, _, "java/lang/AbstractStringBuilder", rfl, rfl, rfl, by decide, rfl, rfl, rfl, (wg_t 107 rfl rfl), Or.inl rfl, fun h => by cases h⟩
theorem fq_St_15 : wo_FD "java/lang/String" 15 577 10 .byte true true := ⟨9, 1, _, "java/lang/String", rfl, rfl, rfl, by decide, rfl, rfl, rfl, (wg_t 484 rfl rfl), Or.inl rfl, fun _ => rfl⟩
theorem fq_St_9 : wo_FD "java/lang/String" 9 576 10 (.array .byte) true true := ⟨9, 0, _, "java/lang/String", rfl, rfl, rfl, by decide, rfl, rfl, rfl, (wg_t 483 rfl rfl), Or.inl rfl, fun _ => rfl⟩
theorem fq_At_7 : wo_FD "java/util/AbstractList" 7 130 3 .int false false := ⟨2, 2, _, "java/util/AbstractList", rfl, rfl, rfl, by decide, rfl, rfl, rfl, (wg_t 62 rfl rfl), Or.inl rfl, fun h => by cases h⟩
theorem fq_Al_48 : wo_FD "java/util/ArrayList" 48 129 3 .int false false := ⟨2, 1, _, "java/util/ArrayList", rfl, rfl, rfl, by decide, rfl, rfl, rfl, (wg_t 61 rfl rfl), Or.inl rfl, fun h => by cases h⟩
theorem fq_Al_63 : wo_FD "java/util/ArrayList" 63 130 3 .int false false := ⟨2, 2, _, "java/util/ArrayList", rfl, rfl, rfl, by decide, rfl, rfl, rfl, (wg_t 63 rfl rfl), Or.inr (wg_t 64 rfl rfl), fun h => by cases h⟩
theorem fq_Al_9 : wo_FD "java/util/ArrayList" 9 128 3 (.array (.object "java/lang/Object")) false false := ⟨2, 0, _, "java/util/ArrayList", rfl, rfl, rfl, by decide, rfl, rfl, rfl, (wg_t 60 rfl rfl), Or.inl rfl, fun h => by cases h⟩
theorem gq_Og_119 : wo_ST "EdgeCache$Origin" 119 12 := ⟨_, List.mem_of_getElem? (i := 12) rfl⟩
theorem gq_Rd_131 : wo_ST "EdgeCache$Reader" 131 10 := ⟨_, List.mem_of_getElem? (i := 10) rfl⟩
theorem gq_Rq_15 : wo_ST "EdgeCache$Request" 15 0 := ⟨_, List.mem_of_getElem? (i := 0) rfl⟩
theorem gq_Rq_24 : wo_ST "EdgeCache$Request" 24 3 := ⟨_, List.mem_of_getElem? (i := 3) rfl⟩
theorem gq_Rq_32 : wo_ST "EdgeCache$Request" 32 4 := ⟨_, List.mem_of_getElem? (i := 4) rfl⟩
theorem gq_Rq_34 : wo_ST "EdgeCache$Request" 34 5 := ⟨_, List.mem_of_getElem? (i := 5) rfl⟩
theorem gq_Rq_36 : wo_ST "EdgeCache$Request" 36 6 := ⟨_, List.mem_of_getElem? (i := 6) rfl⟩
theorem gq_Sh_107 : wo_ST "EdgeCache$Sheet" 107 13 := ⟨_, List.mem_of_getElem? (i := 13) rfl⟩
theorem gq_Sh_120 : wo_ST "EdgeCache$Sheet" 120 14 := ⟨_, List.mem_of_getElem? (i := 14) rfl⟩
theorem gq_Sh_129 : wo_ST "EdgeCache$Sheet" 129 15 := ⟨_, List.mem_of_getElem? (i := 15) rfl⟩
theorem gq_Sh_134 : wo_ST "EdgeCache$Sheet" 134 16 := ⟨_, List.mem_of_getElem? (i := 16) rfl⟩
theorem gq_Sh_136 : wo_ST "EdgeCache$Sheet" 136 17 := ⟨_, List.mem_of_getElem? (i := 17) rfl⟩
theorem gq_Sh_145 : wo_ST "EdgeCache$Sheet" 145 18 := ⟨_, List.mem_of_getElem? (i := 18) rfl⟩
theorem gq_Tx_35 : wo_ST "EdgeCache$Text" 35 11 := ⟨_, List.mem_of_getElem? (i := 11) rfl⟩
theorem gq_Tx_74 : wo_ST "EdgeCache$Text" 74 7 := ⟨_, List.mem_of_getElem? (i := 7) rfl⟩
theorem gq_Tx_91 : wo_ST "EdgeCache$Text" 91 8 := ⟨_, List.mem_of_getElem? (i := 8) rfl⟩
theorem gq_Tx_93 : wo_ST "EdgeCache$Text" 93 9 := ⟨_, List.mem_of_getElem? (i := 9) rfl⟩
theorem gq_La_151 : wo_ST "java/lang/StringLatin1" 151 1 := ⟨_, List.mem_of_getElem? (i := 1) rfl⟩
theorem kq_Cn_16 : Cond.classLink "EdgeCache$Connection" 16 "EdgeCache$Request" ∈ vw_WG := (wg_t 269 rfl rfl)
theorem kq_Og_55 : Cond.classLink "EdgeCache$Origin" 55 "EdgeCache$Resource" ∈ vw_WG := (wg_t 873 rfl rfl)
theorem kq_Rs_11 : Cond.classLink "EdgeCache$Resource" 11 "EdgeCache$Representation" ∈ vw_WG := (wg_t 892 rfl rfl)
theorem kq_So_28 : Cond.classLink "EdgeCache$Store" 28 "EdgeCache$Stored" ∈ vw_WG := (wg_t 1103 rfl rfl)
theorem kq_EC_29 : Cond.classLink "EdgeCache" 29 "EdgeCache$Job" ∈ vw_WG := (wg_t 133 rfl rfl)
theorem kq_EC_9 : Cond.classLink "EdgeCache" 9 "EdgeCache$Connection" ∈ vw_WG := (wg_t 38 rfl rfl)
theorem kq_St_10 : Cond.classLink "java/lang/String" 10 "java/lang/String" ∈ vw_WG := (wg_t 623 rfl rfl)
theorem kq_Al_7 : Cond.classLink "java/util/ArrayList" 7 "java/lang/Object" ∈ vw_WG := (wg_t 948 rfl rfl)
theorem kq_Ar_110 : Cond.classLink "java/util/Arrays" 110 "[Ljava/lang/Object;" ∈ vw_WG := (wg_t 944 rfl rfl)
theorem kq_Ar_2 : Cond.classLink "java/util/Arrays" 2 "java/lang/Object" ∈ vw_WG := (wg_t 946 rfl rfl)
theorem kq_Ar_311 : Cond.classLink "java/util/Arrays" 311 "[B" ∈ vw_WG := (wg_t 375 rfl rfl)
theorem lq_Cn_1 : Cond.methodLink "EdgeCache$Connection" 1 Lib.objectInit ∈ vw_WG := (wg_t 166 rfl rfl)
theorem lq_Cn_34 : wo_MV "EdgeCache$Connection" 34 7 yq_Cn_unanswered prog_2_method_3_code 1 ((Option.some Jvm.ClassFile.FieldType.int)) 0 := ⟨⟨(wg_t 13 rfl rfl), (wg_t 333 rfl rfl), ⟨by decide +kernel, by decide +kernel, by decide +kernel⟩, (wg_t 330 rfl rfl)⟩, (wg_t 331 rfl rfl), 6, _, rfl, rfl, (wg_t 332 rfl rfl)⟩
theorem lq_Cn_48 : wo_MV "EdgeCache$Connection" 48 7 yq_Cn_write prog_2_method_6_code 3 ((Option.none : Option Jvm.ClassFile.FieldType)) 1 := ⟨⟨(wg_t 13 rfl rfl), (wg_t 1152 rfl rfl), ⟨by decide +kernel, by decide +kernel, by decide +kernel⟩, (wg_t 1149 rfl rfl)⟩, (wg_t 1151 rfl rfl), 6, _, rfl, rfl, (wg_p 33 rfl rfl)⟩
theorem lq_Cn_52 : wo_MV "EdgeCache$Connection" 52 10 yq_St_length prog_22_method_54_code 1 ((Option.some Jvm.ClassFile.FieldType.int)) 0 := ⟨⟨(wg_t 9 rfl rfl), (wg_t 541 rfl rfl), ⟨by decide +kernel, by decide +kernel, by decide +kernel⟩, (wg_t 1153 rfl rfl)⟩, (wg_t 539 rfl rfl), 9, _, rfl, rfl, (wg_t 540 rfl rfl)⟩
theorem lq_Cn_57 : wo_MV "EdgeCache$Connection" 57 10 yq_St_charAt prog_22_method_56_code 2 ((Option.some Jvm.ClassFile.FieldType.char)) 1 := ⟨⟨(wg_t 9 rfl rfl), (wg_t 642 rfl rfl), ⟨by decide +kernel, by decide +kernel, by decide +kernel⟩, (wg_t 1154 rfl rfl)⟩, (wg_t 640 rfl rfl), 9, _, rfl, rfl, (wg_t 641 rfl rfl)⟩
theorem lq_Cn_61 : Cond.methodLink "EdgeCache$Connection" 61 Lib.Math.min.name ∈ vw_WG := (wg_t 1163 rfl rfl)
theorem lq_Cn_69 : Cond.methodLink "EdgeCache$Connection" 69 arraycopyName ∈ vw_WG := (wg_t 1165 rfl rfl)
theorem lq_Cn_9 : wo_MN "EdgeCache$Connection" 9 yq_Rd_init prog_5_method_1_code 1 0 := ⟨"EdgeCache", List.mem_of_getElem? (i := 3) rfl, (wg_t 14 rfl rfl), (wg_t 171 rfl rfl), ⟨by decide +kernel, by decide +kernel, by decide +kernel⟩, rfl, (wg_t 170 rfl rfl)⟩
theorem lq_Jb_1 : Cond.methodLink "EdgeCache$Job" 1 Lib.objectInit ∈ vw_WG := (wg_t 810 rfl rfl)
theorem lq_Og_105 : wo_MV "EdgeCache$Origin" 105 10 yq_St_equals prog_22_method_66_code 3 ((Option.some Jvm.ClassFile.FieldType.boolean)) 1 := ⟨⟨(wg_t 9 rfl rfl), (wg_t 622 rfl rfl), ⟨by decide +kernel, by decide +kernel, by decide +kernel⟩, (wg_t 874 rfl rfl)⟩, (wg_t 620 rfl rfl), 9, _, rfl, rfl, (wg_t 621 rfl rfl)⟩
theorem lq_Og_11 : wo_MI "EdgeCache$Origin" 11 yq_Al_init prog_29_method_2_code 1 0 := ⟨⟨(wg_t 5 rfl rfl), (wg_t 50 rfl rfl), ⟨by decide +kernel, by decide +kernel, by decide +kernel⟩, (wg_t 48 rfl rfl)⟩, rfl, (wg_t 49 rfl rfl)⟩
theorem lq_Og_121 : wo_MV "EdgeCache$Origin" 121 12 yq_Rs_set prog_8_method_6_code 8 ((Option.none : Option Jvm.ClassFile.FieldType)) 4 := ⟨⟨(wg_t 26 rfl rfl), (wg_t 953 rfl rfl), ⟨by decide +kernel, by decide +kernel, by decide +kernel⟩, (wg_t 950 rfl rfl)⟩, (wg_t 951 rfl rfl), 11, _, rfl, rfl, (wg_t 952 rfl rfl)⟩
theorem lq_Og_125 : wo_MV "EdgeCache$Origin" 125 12 yq_Rs_least prog_8_method_4_code 2 ((Option.some (Jvm.ClassFile.FieldType.object "EdgeCache$Representation"))) 0 := ⟨⟨(wg_t 26 rfl rfl), (wg_t 1002 rfl rfl), ⟨by decide +kernel, by decide +kernel, by decide +kernel⟩, (wg_t 999 rfl rfl)⟩, (wg_t 1000 rfl rfl), 11, _, rfl, rfl, (wg_t 1001 rfl rfl)⟩
theorem lq_Og_129 : wo_MV "EdgeCache$Origin" 129 3 yq_Al_remove prog_29_method_29_code 4 ((Option.some (Jvm.ClassFile.FieldType.object "java/lang/Object"))) 1 := ⟨⟨(wg_t 5 rfl rfl), (wg_t 1006 rfl rfl), ⟨by decide +kernel, by decide +kernel, by decide +kernel⟩, (wg_t 1003 rfl rfl)⟩, (wg_t 1004 rfl rfl), 2, _, rfl, rfl, (wg_t 1005 rfl rfl)⟩
theorem lq_Og_135 : wo_MS "EdgeCache$Origin" 135 yq_Tx_matches prog_12_method_5_code 4 ((Option.some Jvm.ClassFile.FieldType.boolean)) 2 := ⟨⟨(wg_t 23 rfl rfl), (wg_t 884 rfl rfl), ⟨by decide +kernel, by decide +kernel, by decide +kernel⟩, (wg_t 882 rfl rfl)⟩, (wg_t 883 rfl rfl)⟩
theorem lq_Og_3 : Cond.methodLink "EdgeCache$Origin" 3 Lib.objectInit ∈ vw_WG := (wg_t 45 rfl rfl)
theorem lq_Og_30 : wo_MV "EdgeCache$Origin" 30 2 yq_Og_put prog_4_method_4_code 7 ((Option.none : Option Jvm.ClassFile.FieldType)) 1 := ⟨⟨(wg_t 2 rfl rfl), (wg_t 847 rfl rfl), ⟨by decide +kernel, by decide +kernel, by decide +kernel⟩, (wg_t 844 rfl rfl)⟩, (wg_t 846 rfl rfl), 1, _, rfl, rfl, (wg_p 10 rfl rfl)⟩
theorem lq_Og_34 : wo_MV "EdgeCache$Origin" 34 2 yq_Og_delete prog_4_method_5_code 3 ((Option.none : Option Jvm.ClassFile.FieldType)) 1 := ⟨⟨(wg_t 2 rfl rfl), (wg_t 998 rfl rfl), ⟨by decide +kernel, by decide +kernel, by decide +kernel⟩, (wg_t 995 rfl rfl)⟩, (wg_t 997 rfl rfl), 1, _, rfl, rfl, (wg_p 16 rfl rfl)⟩
theorem lq_Og_37 : wo_MV "EdgeCache$Origin" 37 2 yq_Og_read prog_4_method_3_code 4 ((Option.none : Option Jvm.ClassFile.FieldType)) 1 := ⟨⟨(wg_t 2 rfl rfl), (wg_t 1015 rfl rfl), ⟨by decide +kernel, by decide +kernel, by decide +kernel⟩, (wg_t 1012 rfl rfl)⟩, (wg_t 1014 rfl rfl), 1, _, rfl, rfl, (wg_p 18 rfl rfl)⟩
theorem lq_Og_44 : wo_MV "EdgeCache$Origin" 44 2 yq_Og_indexOf prog_4_method_7_code 3 ((Option.some Jvm.ClassFile.FieldType.int)) 1 := ⟨⟨(wg_t 2 rfl rfl), (wg_t 856 rfl rfl), ⟨by decide +kernel, by decide +kernel, by decide +kernel⟩, (wg_t 853 rfl rfl)⟩, (wg_t 855 rfl rfl), 1, _, rfl, rfl, (wg_p 11 rfl rfl)⟩
theorem lq_Og_51 : wo_MV "EdgeCache$Origin" 51 3 yq_Al_get prog_29_method_20_code 2 ((Option.some (Jvm.ClassFile.FieldType.object "java/lang/Object"))) 1 := ⟨⟨(wg_t 5 rfl rfl), (wg_t 864 rfl rfl), ⟨by decide +kernel, by decide +kernel, by decide +kernel⟩, (wg_t 861 rfl rfl)⟩, (wg_t 862 rfl rfl), 2, _, rfl, rfl, (wg_t 863 rfl rfl)⟩
theorem lq_Og_60 : wo_MV "EdgeCache$Origin" 60 12 yq_Rs_choose prog_8_method_5_code 7 ((Option.some (Jvm.ClassFile.FieldType.object "EdgeCache$Representation"))) 1 := ⟨⟨(wg_t 26 rfl rfl), (wg_t 1019 rfl rfl), ⟨by decide +kernel, by decide +kernel, by decide +kernel⟩, (wg_t 1016 rfl rfl)⟩, (wg_t 1017 rfl rfl), 11, _, rfl, rfl, (wg_t 1018 rfl rfl)⟩
theorem lq_Og_79 : wo_MS "EdgeCache$Origin" 79 yq_Rs_placeOf prog_8_method_2_code 2 ((Option.some Jvm.ClassFile.FieldType.int)) 1 := ⟨⟨(wg_t 26 rfl rfl), (wg_t 850 rfl rfl), ⟨by decide +kernel, by decide +kernel, by decide +kernel⟩, (wg_t 848 rfl rfl)⟩, (wg_t 849 rfl rfl)⟩
theorem lq_Og_82 : wo_MV "EdgeCache$Origin" 82 12 yq_Rs_at prog_8_method_3_code 2 ((Option.some (Jvm.ClassFile.FieldType.object "EdgeCache$Representation"))) 1 := ⟨⟨(wg_t 26 rfl rfl), (wg_t 878 rfl rfl), ⟨by decide +kernel, by decide +kernel, by decide +kernel⟩, (wg_t 875 rfl rfl)⟩, (wg_t 876 rfl rfl), 11, _, rfl, rfl, (wg_t 877 rfl rfl)⟩
theorem lq_Og_86 : wo_MS "EdgeCache$Origin" 86 yq_Og_isForbidden prog_4_method_6_code 2 ((Option.some Jvm.ClassFile.FieldType.boolean)) 2 := ⟨⟨(wg_t 2 rfl rfl), (wg_t 881 rfl rfl), ⟨by decide +kernel, by decide +kernel, by decide +kernel⟩, (wg_t 879 rfl rfl)⟩, (wg_t 880 rfl rfl)⟩
theorem lq_Og_90 : wo_MV "EdgeCache$Origin" 90 3 yq_Al_size prog_29_method_8_code 1 ((Option.some Jvm.ClassFile.FieldType.int)) 0 := ⟨⟨(wg_t 5 rfl rfl), (wg_t 860 rfl rfl), ⟨by decide +kernel, by decide +kernel, by decide +kernel⟩, (wg_t 857 rfl rfl)⟩, (wg_t 858 rfl rfl), 2, _, rfl, rfl, (wg_t 859 rfl rfl)⟩
theorem lq_Og_94 : wo_MI "EdgeCache$Origin" 94 yq_Rs_init prog_8_method_1_code 2 1 := ⟨⟨(wg_t 26 rfl rfl), (wg_t 890 rfl rfl), ⟨by decide +kernel, by decide +kernel, by decide +kernel⟩, (wg_t 888 rfl rfl)⟩, rfl, (wg_t 889 rfl rfl)⟩
theorem lq_Og_97 : wo_MV "EdgeCache$Origin" 97 3 yq_Al_add_O prog_29_method_25_code 2 ((Option.some Jvm.ClassFile.FieldType.boolean)) 1 := ⟨⟨(wg_t 5 rfl rfl), (wg_t 905 rfl rfl), ⟨by decide +kernel, by decide +kernel, by decide +kernel⟩, (wg_t 902 rfl rfl)⟩, (wg_t 903 rfl rfl), 2, _, rfl, rfl, (wg_t 904 rfl rfl)⟩
theorem lq_Rd_105 : wo_MV "EdgeCache$Reader" 105 10 yq_St_substring_I prog_22_method_91_code 2 ((Option.some (Jvm.ClassFile.FieldType.object "java/lang/String"))) 1 := ⟨⟨(wg_t 9 rfl rfl), (wg_t 633 rfl rfl), ⟨by decide +kernel, by decide +kernel, by decide +kernel⟩, (wg_t 630 rfl rfl)⟩, (wg_t 631 rfl rfl), 9, _, rfl, rfl, (wg_t 632 rfl rfl)⟩
theorem lq_Rd_108 : wo_MS "EdgeCache$Reader" 108 yq_Tx_decoded prog_12_method_7_code 6 ((Option.some (Jvm.ClassFile.FieldType.object "java/lang/String"))) 2 := ⟨⟨(wg_t 23 rfl rfl), (wg_t 637 rfl rfl), ⟨by decide +kernel, by decide +kernel, by decide +kernel⟩, (wg_t 635 rfl rfl)⟩, (wg_t 636 rfl rfl)⟩
theorem lq_Rd_11 : wo_MI "EdgeCache$Reader" 11 yq_SB_init prog_23_method_1_code 1 0 := ⟨⟨(wg_t 8 rfl rfl), (wg_t 90 rfl rfl), ⟨by decide +kernel, by decide +kernel, by decide +kernel⟩, (wg_t 174 rfl rfl)⟩, rfl, (wg_t 89 rfl rfl)⟩
theorem lq_Rd_114 : wo_MS "EdgeCache$Reader" 114 yq_Tx_path prog_12_method_9_code 6 ((Option.some (Jvm.ClassFile.FieldType.object "java/lang/String"))) 2 := ⟨⟨(wg_t 23 rfl rfl), (wg_t 669 rfl rfl), ⟨by decide +kernel, by decide +kernel, by decide +kernel⟩, (wg_t 667 rfl rfl)⟩, (wg_t 668 rfl rfl)⟩
theorem lq_Rd_119 : wo_MV "EdgeCache$Reader" 119 10 yq_St_length prog_22_method_54_code 1 ((Option.some Jvm.ClassFile.FieldType.int)) 0 := ⟨⟨(wg_t 9 rfl rfl), (wg_t 541 rfl rfl), ⟨by decide +kernel, by decide +kernel, by decide +kernel⟩, (wg_t 722 rfl rfl)⟩, (wg_t 539 rfl rfl), 9, _, rfl, rfl, (wg_t 540 rfl rfl)⟩
theorem lq_Rd_120 : wo_MS "EdgeCache$Reader" 120 yq_Rd_isHeader prog_5_method_8_code 2 ((Option.some Jvm.ClassFile.FieldType.boolean)) 1 := ⟨⟨(wg_t 14 rfl rfl), (wg_t 733 rfl rfl), ⟨by decide +kernel, by decide +kernel, by decide +kernel⟩, (wg_t 731 rfl rfl)⟩, (wg_t 732 rfl rfl)⟩
theorem lq_Rd_124 : wo_MV "EdgeCache$Reader" 124 10 yq_St_charAt prog_22_method_56_code 2 ((Option.some Jvm.ClassFile.FieldType.char)) 1 := ⟨⟨(wg_t 9 rfl rfl), (wg_t 642 rfl rfl), ⟨by decide +kernel, by decide +kernel, by decide +kernel⟩, (wg_t 734 rfl rfl)⟩, (wg_t 640 rfl rfl), 9, _, rfl, rfl, (wg_t 641 rfl rfl)⟩
theorem lq_Rd_128 : wo_MV "EdgeCache$Reader" 128 8 yq_Rd_takeLength prog_5_method_9_code 3 ((Option.some Jvm.ClassFile.FieldType.int)) 1 := ⟨⟨(wg_t 14 rfl rfl), (wg_t 738 rfl rfl), ⟨by decide +kernel, by decide +kernel, by decide +kernel⟩, (wg_t 735 rfl rfl)⟩, (wg_t 737 rfl rfl), 7, _, rfl, rfl, (wg_p 5 rfl rfl)⟩
theorem lq_Rd_133 : wo_MV "EdgeCache$Reader" 133 10 yq_St_equals prog_22_method_66_code 3 ((Option.some Jvm.ClassFile.FieldType.boolean)) 1 := ⟨⟨(wg_t 9 rfl rfl), (wg_t 622 rfl rfl), ⟨by decide +kernel, by decide +kernel, by decide +kernel⟩, (wg_t 743 rfl rfl)⟩, (wg_t 620 rfl rfl), 9, _, rfl, rfl, (wg_t 621 rfl rfl)⟩
theorem lq_Rd_137 : wo_MV "EdgeCache$Reader" 137 9 yq_Rq_set prog_7_method_4_code 3 ((Option.none : Option Jvm.ClassFile.FieldType)) 2 := ⟨⟨(wg_t 15 rfl rfl), (wg_t 747 rfl rfl), ⟨by decide +kernel, by decide +kernel, by decide +kernel⟩, (wg_t 744 rfl rfl)⟩, (wg_t 745 rfl rfl), 8, _, rfl, rfl, (wg_t 746 rfl rfl)⟩
theorem lq_Rd_141 : wo_MS "EdgeCache$Reader" 141 yq_Tx_whole prog_12_method_4_code 6 ((Option.some Jvm.ClassFile.FieldType.int)) 3 := ⟨⟨(wg_t 23 rfl rfl), (wg_t 741 rfl rfl), ⟨by decide +kernel, by decide +kernel, by decide +kernel⟩, (wg_t 739 rfl rfl)⟩, (wg_t 740 rfl rfl)⟩
theorem lq_Rd_145 : wo_MS "EdgeCache$Reader" 145 yq_Tx_hexadecimal prog_12_method_6_code 1 ((Option.some Jvm.ClassFile.FieldType.int)) 1 := ⟨⟨(wg_t 23 rfl rfl), (wg_t 655 rfl rfl), ⟨by decide +kernel, by decide +kernel, by decide +kernel⟩, (wg_t 752 rfl rfl)⟩, (wg_t 654 rfl rfl)⟩
theorem lq_Rd_26 : wo_MN "EdgeCache$Reader" 26 yq_Rq_init prog_7_method_1_code 1 0 := ⟨"EdgeCache", List.mem_of_getElem? (i := 4) rfl, (wg_t 15 rfl rfl), (wg_t 179 rfl rfl), ⟨by decide +kernel, by decide +kernel, by decide +kernel⟩, rfl, (wg_t 178 rfl rfl)⟩
theorem lq_Rd_3 : Cond.methodLink "EdgeCache$Reader" 3 Lib.objectInit ∈ vw_WG := (wg_t 172 rfl rfl)
theorem lq_Rd_38 : wo_MV "EdgeCache$Reader" 38 8 yq_Rd_takeBody prog_5_method_4_code 2 ((Option.some Jvm.ClassFile.FieldType.int)) 1 := ⟨⟨(wg_t 14 rfl rfl), (wg_t 341 rfl rfl), ⟨by decide +kernel, by decide +kernel, by decide +kernel⟩, (wg_t 338 rfl rfl)⟩, (wg_t 340 rfl rfl), 7, _, rfl, rfl, (wg_p 0 rfl rfl)⟩
theorem lq_Rd_42 : wo_MV "EdgeCache$Reader" 42 5 yq_SB_toString prog_23_method_42_code 1 ((Option.some (Jvm.ClassFile.FieldType.object "java/lang/String"))) 0 := ⟨⟨(wg_t 8 rfl rfl), (wg_t 436 rfl rfl), ⟨by decide +kernel, by decide +kernel, by decide +kernel⟩, (wg_t 433 rfl rfl)⟩, (wg_t 434 rfl rfl), 4, _, rfl, rfl, (wg_t 435 rfl rfl)⟩
theorem lq_Rd_46 : wo_MV "EdgeCache$Reader" 46 5 yq_SB_setLength prog_23_method_89_code 2 ((Option.none : Option Jvm.ClassFile.FieldType)) 1 := ⟨⟨(wg_t 8 rfl rfl), (wg_t 497 rfl rfl), ⟨by decide +kernel, by decide +kernel, by decide +kernel⟩, (wg_t 494 rfl rfl)⟩, (wg_t 495 rfl rfl), 4, _, rfl, rfl, (wg_t 496 rfl rfl)⟩
theorem lq_Rd_50 : wo_MV "EdgeCache$Reader" 50 8 yq_Rd_judge prog_5_method_5_code 2 ((Option.some Jvm.ClassFile.FieldType.int)) 1 := ⟨⟨(wg_t 14 rfl rfl), (wg_t 517 rfl rfl), ⟨by decide +kernel, by decide +kernel, by decide +kernel⟩, (wg_t 514 rfl rfl)⟩, (wg_t 516 rfl rfl), 7, _, rfl, rfl, (wg_p 1 rfl rfl)⟩
theorem lq_Rd_54 : wo_MV "EdgeCache$Reader" 54 5 yq_SB_length prog_23_method_93_code 1 ((Option.some Jvm.ClassFile.FieldType.int)) 0 := ⟨⟨(wg_t 8 rfl rfl), (wg_t 456 rfl rfl), ⟨by decide +kernel, by decide +kernel, by decide +kernel⟩, (wg_t 753 rfl rfl)⟩, (wg_t 455 rfl rfl), 4, _, rfl, rfl, (wg_t 1766 rfl rfl)⟩
theorem lq_Rd_57 : wo_MV "EdgeCache$Reader" 57 5 yq_SB_append_C prog_23_method_14_code 2 ((Option.some (Jvm.ClassFile.FieldType.object "java/lang/StringBuilder"))) 1 := ⟨⟨(wg_t 8 rfl rfl), (wg_t 345 rfl rfl), ⟨by decide +kernel, by decide +kernel, by decide +kernel⟩, (wg_t 342 rfl rfl)⟩, (wg_t 343 rfl rfl), 4, _, rfl, rfl, (wg_t 344 rfl rfl)⟩
theorem lq_Rd_74 : wo_MV "EdgeCache$Reader" 74 10 yq_St_isEmpty prog_22_method_55_code 1 ((Option.some Jvm.ClassFile.FieldType.boolean)) 0 := ⟨⟨(wg_t 9 rfl rfl), (wg_t 521 rfl rfl), ⟨by decide +kernel, by decide +kernel, by decide +kernel⟩, (wg_t 518 rfl rfl)⟩, (wg_t 519 rfl rfl), 9, _, rfl, rfl, (wg_t 520 rfl rfl)⟩
theorem lq_Rd_80 : wo_MV "EdgeCache$Reader" 80 8 yq_Rd_judgeRequestLine prog_5_method_6_code 4 ((Option.some Jvm.ClassFile.FieldType.int)) 1 := ⟨⟨(wg_t 14 rfl rfl), (wg_t 525 rfl rfl), ⟨by decide +kernel, by decide +kernel, by decide +kernel⟩, (wg_t 522 rfl rfl)⟩, (wg_t 524 rfl rfl), 7, _, rfl, rfl, (wg_p 2 rfl rfl)⟩
theorem lq_Rd_83 : wo_MV "EdgeCache$Reader" 83 8 yq_Rd_endHeaders prog_5_method_10_code 1 ((Option.some Jvm.ClassFile.FieldType.int)) 0 := ⟨⟨(wg_t 14 rfl rfl), (wg_t 726 rfl rfl), ⟨by decide +kernel, by decide +kernel, by decide +kernel⟩, (wg_t 723 rfl rfl)⟩, (wg_t 725 rfl rfl), 7, _, rfl, rfl, (wg_p 3 rfl rfl)⟩
theorem lq_Rd_86 : wo_MV "EdgeCache$Reader" 86 8 yq_Rd_judgeHeader prog_5_method_7_code 4 ((Option.some Jvm.ClassFile.FieldType.int)) 1 := ⟨⟨(wg_t 14 rfl rfl), (wg_t 730 rfl rfl), ⟨by decide +kernel, by decide +kernel, by decide +kernel⟩, (wg_t 727 rfl rfl)⟩, (wg_t 729 rfl rfl), 7, _, rfl, rfl, (wg_p 4 rfl rfl)⟩
theorem lq_Rd_89 : wo_MV "EdgeCache$Reader" 89 8 yq_Rd_judgeChunk prog_5_method_11_code 3 ((Option.some Jvm.ClassFile.FieldType.int)) 1 := ⟨⟨(wg_t 14 rfl rfl), (wg_t 751 rfl rfl), ⟨by decide +kernel, by decide +kernel, by decide +kernel⟩, (wg_t 748 rfl rfl)⟩, (wg_t 750 rfl rfl), 7, _, rfl, rfl, (wg_p 6 rfl rfl)⟩
theorem lq_Rd_92 : wo_MV "EdgeCache$Reader" 92 10 yq_St_indexOf_I prog_22_method_79_code 2 ((Option.some Jvm.ClassFile.FieldType.int)) 1 := ⟨⟨(wg_t 9 rfl rfl), (wg_t 529 rfl rfl), ⟨by decide +kernel, by decide +kernel, by decide +kernel⟩, (wg_t 526 rfl rfl)⟩, (wg_t 527 rfl rfl), 9, _, rfl, rfl, (wg_t 528 rfl rfl)⟩
theorem lq_Rd_95 : wo_MV "EdgeCache$Reader" 95 10 yq_St_substring_II prog_22_method_92_code 5 ((Option.some (Jvm.ClassFile.FieldType.object "java/lang/String"))) 2 := ⟨⟨(wg_t 9 rfl rfl), (wg_t 595 rfl rfl), ⟨by decide +kernel, by decide +kernel, by decide +kernel⟩, (wg_t 592 rfl rfl)⟩, (wg_t 593 rfl rfl), 9, _, rfl, rfl, (wg_t 594 rfl rfl)⟩
theorem lq_Rd_99 : wo_MS "EdgeCache$Reader" 99 yq_Rq_methodNamed prog_7_method_2_code 1 ((Option.some Jvm.ClassFile.FieldType.int)) 1 := ⟨⟨(wg_t 15 rfl rfl), (wg_t 617 rfl rfl), ⟨by decide +kernel, by decide +kernel, by decide +kernel⟩, (wg_t 615 rfl rfl)⟩, (wg_t 616 rfl rfl)⟩
theorem lq_Rp_1 : Cond.methodLink "EdgeCache$Representation" 1 Lib.objectInit ∈ vw_WG := (wg_t 958 rfl rfl)
theorem lq_Rq_26 : wo_MV "EdgeCache$Request" 26 10 yq_St_equals prog_22_method_66_code 3 ((Option.some Jvm.ClassFile.FieldType.boolean)) 1 := ⟨⟨(wg_t 9 rfl rfl), (wg_t 622 rfl rfl), ⟨by decide +kernel, by decide +kernel, by decide +kernel⟩, (wg_t 619 rfl rfl)⟩, (wg_t 620 rfl rfl), 9, _, rfl, rfl, (wg_t 621 rfl rfl)⟩
theorem lq_Rq_3 : Cond.methodLink "EdgeCache$Request" 3 Lib.objectInit ∈ vw_WG := (wg_t 180 rfl rfl)
theorem lq_Rs_21 : wo_MV "EdgeCache$Resource" 21 10 yq_St_length prog_22_method_54_code 1 ((Option.some Jvm.ClassFile.FieldType.int)) 0 := ⟨⟨(wg_t 9 rfl rfl), (wg_t 541 rfl rfl), ⟨by decide +kernel, by decide +kernel, by decide +kernel⟩, (wg_t 851 rfl rfl)⟩, (wg_t 539 rfl rfl), 9, _, rfl, rfl, (wg_t 540 rfl rfl)⟩
theorem lq_Rs_27 : wo_MV "EdgeCache$Resource" 27 10 yq_St_charAt prog_22_method_56_code 2 ((Option.some Jvm.ClassFile.FieldType.char)) 1 := ⟨⟨(wg_t 9 rfl rfl), (wg_t 642 rfl rfl), ⟨by decide +kernel, by decide +kernel, by decide +kernel⟩, (wg_t 852 rfl rfl)⟩, (wg_t 640 rfl rfl), 9, _, rfl, rfl, (wg_t 641 rfl rfl)⟩
theorem lq_Rs_3 : Cond.methodLink "EdgeCache$Resource" 3 Lib.objectInit ∈ vw_WG := (wg_t 891 rfl rfl)
theorem lq_Rs_31 : wo_MV "EdgeCache$Resource" 31 12 yq_Rs_letterCount prog_8_method_7_code 3 ((Option.some Jvm.ClassFile.FieldType.int)) 0 := ⟨⟨(wg_t 26 rfl rfl), (wg_t 994 rfl rfl), ⟨by decide +kernel, by decide +kernel, by decide +kernel⟩, (wg_t 991 rfl rfl)⟩, (wg_t 993 rfl rfl), 11, _, rfl, rfl, (wg_p 15 rfl rfl)⟩
theorem lq_Rs_34 : wo_MV "EdgeCache$Resource" 34 12 yq_Rs_least prog_8_method_4_code 2 ((Option.some (Jvm.ClassFile.FieldType.object "EdgeCache$Representation"))) 0 := ⟨⟨(wg_t 26 rfl rfl), (wg_t 1002 rfl rfl), ⟨by decide +kernel, by decide +kernel, by decide +kernel⟩, (wg_t 1020 rfl rfl)⟩, (wg_t 1000 rfl rfl), 11, _, rfl, rfl, (wg_t 1001 rfl rfl)⟩
theorem lq_Rs_44 : wo_MS "EdgeCache$Resource" 44 yq_Tx_number prog_12_method_3_code 6 ((Option.some Jvm.ClassFile.FieldType.int)) 2 := ⟨⟨(wg_t 23 rfl rfl), (wg_t 1023 rfl rfl), ⟨by decide +kernel, by decide +kernel, by decide +kernel⟩, (wg_t 1021 rfl rfl)⟩, (wg_t 1022 rfl rfl)⟩
theorem lq_Rs_48 : Cond.methodLink "EdgeCache$Resource" 48 Lib.Math.max.name ∈ vw_WG := (wg_t 1025 rfl rfl)
theorem lq_Rs_54 : wo_MI "EdgeCache$Resource" 54 yq_Rp_init prog_6_method_1_code 6 5 := ⟨⟨(wg_t 28 rfl rfl), (wg_t 957 rfl rfl), ⟨by decide +kernel, by decide +kernel, by decide +kernel⟩, (wg_t 955 rfl rfl)⟩, rfl, (wg_t 956 rfl rfl)⟩
theorem lq_Sh_100 : wo_MV "EdgeCache$Sheet" 100 5 yq_SB_length prog_23_method_93_code 1 ((Option.some Jvm.ClassFile.FieldType.int)) 0 := ⟨⟨(wg_t 8 rfl rfl), (wg_t 456 rfl rfl), ⟨by decide +kernel, by decide +kernel, by decide +kernel⟩, (wg_t 1228 rfl rfl)⟩, (wg_t 455 rfl rfl), 4, _, rfl, rfl, (wg_t 1766 rfl rfl)⟩
theorem lq_Sh_101 : wo_MV "EdgeCache$Sheet" 101 5 yq_SB_setLength prog_23_method_89_code 2 ((Option.none : Option Jvm.ClassFile.FieldType)) 1 := ⟨⟨(wg_t 8 rfl rfl), (wg_t 497 rfl rfl), ⟨by decide +kernel, by decide +kernel, by decide +kernel⟩, (wg_t 774 rfl rfl)⟩, (wg_t 495 rfl rfl), 4, _, rfl, rfl, (wg_t 496 rfl rfl)⟩
theorem lq_Sh_104 : wo_MV "EdgeCache$Sheet" 104 5 yq_SB_append_I prog_23_method_15_code 2 ((Option.some (Jvm.ClassFile.FieldType.object "java/lang/StringBuilder"))) 1 := ⟨⟨(wg_t 8 rfl rfl), (wg_t 778 rfl rfl), ⟨by decide +kernel, by decide +kernel, by decide +kernel⟩, (wg_t 775 rfl rfl)⟩, (wg_t 776 rfl rfl), 4, _, rfl, rfl, (wg_t 777 rfl rfl)⟩
theorem lq_Sh_109 : wo_MV "EdgeCache$Sheet" 109 5 yq_SB_append_S prog_23_method_7_code 2 ((Option.some (Jvm.ClassFile.FieldType.object "java/lang/StringBuilder"))) 1 := ⟨⟨(wg_t 8 rfl rfl), (wg_t 681 rfl rfl), ⟨by decide +kernel, by decide +kernel, by decide +kernel⟩, (wg_t 1041 rfl rfl)⟩, (wg_t 679 rfl rfl), 4, _, rfl, rfl, (wg_t 680 rfl rfl)⟩
theorem lq_Sh_11 : wo_MI "EdgeCache$Sheet" 11 yq_SB_init prog_23_method_1_code 1 0 := ⟨⟨(wg_t 8 rfl rfl), (wg_t 90 rfl rfl), ⟨by decide +kernel, by decide +kernel, by decide +kernel⟩, (wg_t 88 rfl rfl)⟩, rfl, (wg_t 89 rfl rfl)⟩
theorem lq_Sh_125 : wo_MV "EdgeCache$Sheet" 125 10 yq_St_isEmpty prog_22_method_55_code 1 ((Option.some Jvm.ClassFile.FieldType.boolean)) 0 := ⟨⟨(wg_t 9 rfl rfl), (wg_t 521 rfl rfl), ⟨by decide +kernel, by decide +kernel, by decide +kernel⟩, (wg_t 1043 rfl rfl)⟩, (wg_t 519 rfl rfl), 9, _, rfl, rfl, (wg_t 520 rfl rfl)⟩
theorem lq_Sh_138 : wo_MV "EdgeCache$Sheet" 138 4 yq_Sh_onePiece prog_9_method_10_code 2 ((Option.none : Option Jvm.ClassFile.FieldType)) 1 := ⟨⟨(wg_t 6 rfl rfl), (wg_t 1075 rfl rfl), ⟨by decide +kernel, by decide +kernel, by decide +kernel⟩, (wg_t 1072 rfl rfl)⟩, (wg_t 1074 rfl rfl), 3, _, rfl, rfl, (wg_p 25 rfl rfl)⟩
theorem lq_Sh_142 : wo_MV "EdgeCache$Sheet" 142 4 yq_Sh_twoPieces prog_9_method_11_code 4 ((Option.none : Option Jvm.ClassFile.FieldType)) 1 := ⟨⟨(wg_t 6 rfl rfl), (wg_t 1084 rfl rfl), ⟨by decide +kernel, by decide +kernel, by decide +kernel⟩, (wg_t 1081 rfl rfl)⟩, (wg_t 1083 rfl rfl), 3, _, rfl, rfl, (wg_p 27 rfl rfl)⟩
theorem lq_Sh_147 : wo_MV "EdgeCache$Sheet" 147 4 yq_Sh_span prog_9_method_12_code 2 ((Option.none : Option Jvm.ClassFile.FieldType)) 1 := ⟨⟨(wg_t 6 rfl rfl), (wg_t 1080 rfl rfl), ⟨by decide +kernel, by decide +kernel, by decide +kernel⟩, (wg_t 1077 rfl rfl)⟩, (wg_t 1079 rfl rfl), 3, _, rfl, rfl, (wg_p 26 rfl rfl)⟩
theorem lq_Sh_150 : wo_MV "EdgeCache$Sheet" 150 10 yq_St_substring_II prog_22_method_92_code 5 ((Option.some (Jvm.ClassFile.FieldType.object "java/lang/String"))) 2 := ⟨⟨(wg_t 9 rfl rfl), (wg_t 595 rfl rfl), ⟨by decide +kernel, by decide +kernel, by decide +kernel⟩, (wg_t 1065 rfl rfl)⟩, (wg_t 593 rfl rfl), 9, _, rfl, rfl, (wg_t 594 rfl rfl)⟩
theorem lq_Sh_156 : wo_MS "EdgeCache$Sheet" 156 yq_Tx_whole prog_12_method_4_code 6 ((Option.some Jvm.ClassFile.FieldType.int)) 3 := ⟨⟨(wg_t 23 rfl rfl), (wg_t 741 rfl rfl), ⟨by decide +kernel, by decide +kernel, by decide +kernel⟩, (wg_t 1049 rfl rfl)⟩, (wg_t 740 rfl rfl)⟩
theorem lq_Sh_159 : wo_MV "EdgeCache$Sheet" 159 10 yq_St_indexOf_I prog_22_method_79_code 2 ((Option.some Jvm.ClassFile.FieldType.int)) 1 := ⟨⟨(wg_t 9 rfl rfl), (wg_t 529 rfl rfl), ⟨by decide +kernel, by decide +kernel, by decide +kernel⟩, (wg_t 1054 rfl rfl)⟩, (wg_t 527 rfl rfl), 9, _, rfl, rfl, (wg_t 528 rfl rfl)⟩
theorem lq_Sh_163 : wo_MV "EdgeCache$Sheet" 163 4 yq_Sh_readPiece prog_9_method_15_code 8 ((Option.some Jvm.ClassFile.FieldType.boolean)) 2 := ⟨⟨(wg_t 6 rfl rfl), (wg_t 1058 rfl rfl), ⟨by decide +kernel, by decide +kernel, by decide +kernel⟩, (wg_t 1055 rfl rfl)⟩, (wg_t 1057 rfl rfl), 3, _, rfl, rfl, (wg_p 22 rfl rfl)⟩
theorem lq_Sh_166 : Cond.methodLink "EdgeCache$Sheet" 166 Lib.Math.max.name ∈ vw_WG := (wg_t 1059 rfl rfl)
theorem lq_Sh_172 : wo_MV "EdgeCache$Sheet" 172 4 yq_Sh_notePiece prog_9_method_16_code 3 ((Option.none : Option Jvm.ClassFile.FieldType)) 2 := ⟨⟨(wg_t 6 rfl rfl), (wg_t 1063 rfl rfl), ⟨by decide +kernel, by decide +kernel, by decide +kernel⟩, (wg_t 1060 rfl rfl)⟩, (wg_t 1062 rfl rfl), 3, _, rfl, rfl, (wg_p 23 rfl rfl)⟩
theorem lq_Sh_176 : Cond.methodLink "EdgeCache$Sheet" 176 Lib.Math.min.name ∈ vw_WG := (wg_t 1064 rfl rfl)
theorem lq_Sh_25 : wo_MV "EdgeCache$Sheet" 25 4 yq_Sh_begin prog_9_method_5_code 2 ((Option.none : Option Jvm.ClassFile.FieldType)) 1 := ⟨⟨(wg_t 6 rfl rfl), (wg_t 773 rfl rfl), ⟨by decide +kernel, by decide +kernel, by decide +kernel⟩, (wg_t 770 rfl rfl)⟩, (wg_t 772 rfl rfl), 3, _, rfl, rfl, (wg_p 8 rfl rfl)⟩
theorem lq_Sh_29 : wo_MV "EdgeCache$Sheet" 29 4 yq_Sh_numberLine prog_9_method_6_code 3 ((Option.none : Option Jvm.ClassFile.FieldType)) 2 := ⟨⟨(wg_t 6 rfl rfl), (wg_t 804 rfl rfl), ⟨by decide +kernel, by decide +kernel, by decide +kernel⟩, (wg_t 801 rfl rfl)⟩, (wg_t 803 rfl rfl), 3, _, rfl, rfl, (wg_p 9 rfl rfl)⟩
theorem lq_Sh_3 : Cond.methodLink "EdgeCache$Sheet" 3 Lib.objectInit ∈ vw_WG := (wg_t 85 rfl rfl)
theorem lq_Sh_33 : wo_MV "EdgeCache$Sheet" 33 5 yq_SB_append_C prog_23_method_14_code 2 ((Option.some (Jvm.ClassFile.FieldType.object "java/lang/StringBuilder"))) 1 := ⟨⟨(wg_t 8 rfl rfl), (wg_t 345 rfl rfl), ⟨by decide +kernel, by decide +kernel, by decide +kernel⟩, (wg_t 800 rfl rfl)⟩, (wg_t 343 rfl rfl), 4, _, rfl, rfl, (wg_t 344 rfl rfl)⟩
theorem lq_Sh_37 : wo_MV "EdgeCache$Sheet" 37 5 yq_SB_toString prog_23_method_42_code 1 ((Option.some (Jvm.ClassFile.FieldType.object "java/lang/String"))) 0 := ⟨⟨(wg_t 8 rfl rfl), (wg_t 436 rfl rfl), ⟨by decide +kernel, by decide +kernel, by decide +kernel⟩, (wg_t 805 rfl rfl)⟩, (wg_t 434 rfl rfl), 4, _, rfl, rfl, (wg_t 435 rfl rfl)⟩
theorem lq_Sh_53 : wo_MS "EdgeCache$Sheet" 53 yq_Tx_matches prog_12_method_5_code 4 ((Option.some Jvm.ClassFile.FieldType.boolean)) 2 := ⟨⟨(wg_t 23 rfl rfl), (wg_t 884 rfl rfl), ⟨by decide +kernel, by decide +kernel, by decide +kernel⟩, (wg_t 1034 rfl rfl)⟩, (wg_t 883 rfl rfl)⟩
theorem lq_Sh_59 : wo_MV "EdgeCache$Sheet" 59 4 yq_Sh_bare prog_9_method_2_code 3 ((Option.some (Jvm.ClassFile.FieldType.object "java/lang/String"))) 2 := ⟨⟨(wg_t 6 rfl rfl), (wg_t 769 rfl rfl), ⟨by decide +kernel, by decide +kernel, by decide +kernel⟩, (wg_t 1035 rfl rfl)⟩, (wg_t 767 rfl rfl), 3, _, rfl, rfl, (wg_t 768 rfl rfl)⟩
theorem lq_Sh_66 : wo_MV "EdgeCache$Sheet" 66 4 yq_Sh_describe prog_9_method_7_code 4 ((Option.none : Option Jvm.ClassFile.FieldType)) 3 := ⟨⟨(wg_t 6 rfl rfl), (wg_t 1039 rfl rfl), ⟨by decide +kernel, by decide +kernel, by decide +kernel⟩, (wg_t 1036 rfl rfl)⟩, (wg_t 1038 rfl rfl), 3, _, rfl, rfl, (wg_p 20 rfl rfl)⟩
theorem lq_Sh_70 : wo_MS "EdgeCache$Sheet" 70 yq_Sh_asksForPart prog_9_method_13_code 3 ((Option.some Jvm.ClassFile.FieldType.boolean)) 2 := ⟨⟨(wg_t 6 rfl rfl), (wg_t 1047 rfl rfl), ⟨by decide +kernel, by decide +kernel, by decide +kernel⟩, (wg_t 1045 rfl rfl)⟩, (wg_t 1046 rfl rfl)⟩
theorem lq_Sh_80 : wo_MV "EdgeCache$Sheet" 80 10 yq_St_length prog_22_method_54_code 1 ((Option.some Jvm.ClassFile.FieldType.int)) 0 := ⟨⟨(wg_t 9 rfl rfl), (wg_t 541 rfl rfl), ⟨by decide +kernel, by decide +kernel, by decide +kernel⟩, (wg_t 1048 rfl rfl)⟩, (wg_t 539 rfl rfl), 9, _, rfl, rfl, (wg_t 540 rfl rfl)⟩
theorem lq_Sh_86 : wo_MV "EdgeCache$Sheet" 86 4 yq_Sh_readPieces prog_9_method_14_code 4 ((Option.some Jvm.ClassFile.FieldType.boolean)) 2 := ⟨⟨(wg_t 6 rfl rfl), (wg_t 1053 rfl rfl), ⟨by decide +kernel, by decide +kernel, by decide +kernel⟩, (wg_t 1050 rfl rfl)⟩, (wg_t 1052 rfl rfl), 3, _, rfl, rfl, (wg_p 21 rfl rfl)⟩
theorem lq_Sh_89 : wo_MV "EdgeCache$Sheet" 89 4 yq_Sh_part prog_9_method_9_code 3 ((Option.some (Jvm.ClassFile.FieldType.object "java/lang/String"))) 2 := ⟨⟨(wg_t 6 rfl rfl), (wg_t 1069 rfl rfl), ⟨by decide +kernel, by decide +kernel, by decide +kernel⟩, (wg_t 1066 rfl rfl)⟩, (wg_t 1068 rfl rfl), 3, _, rfl, rfl, (wg_p 24 rfl rfl)⟩
theorem lq_Sh_96 : wo_MV "EdgeCache$Sheet" 96 4 yq_Sh_whole prog_9_method_8_code 4 ((Option.none : Option Jvm.ClassFile.FieldType)) 3 := ⟨⟨(wg_t 6 rfl rfl), (wg_t 1088 rfl rfl), ⟨by decide +kernel, by decide +kernel, by decide +kernel⟩, (wg_t 1085 rfl rfl)⟩, (wg_t 1087 rfl rfl), 3, _, rfl, rfl, (wg_p 28 rfl rfl)⟩
theorem lq_So_1 : Cond.methodLink "EdgeCache$Store" 1 Lib.objectInit ∈ vw_WG := (wg_t 148 rfl rfl)
theorem lq_So_20 : wo_MV "EdgeCache$Store" 20 3 yq_Al_size prog_29_method_8_code 1 ((Option.some Jvm.ClassFile.FieldType.int)) 0 := ⟨⟨(wg_t 5 rfl rfl), (wg_t 860 rfl rfl), ⟨by decide +kernel, by decide +kernel, by decide +kernel⟩, (wg_t 1101 rfl rfl)⟩, (wg_t 858 rfl rfl), 2, _, rfl, rfl, (wg_t 859 rfl rfl)⟩
theorem lq_So_24 : wo_MV "EdgeCache$Store" 24 3 yq_Al_get prog_29_method_20_code 2 ((Option.some (Jvm.ClassFile.FieldType.object "java/lang/Object"))) 1 := ⟨⟨(wg_t 5 rfl rfl), (wg_t 864 rfl rfl), ⟨by decide +kernel, by decide +kernel, by decide +kernel⟩, (wg_t 1102 rfl rfl)⟩, (wg_t 862 rfl rfl), 2, _, rfl, rfl, (wg_t 863 rfl rfl)⟩
theorem lq_So_30 : wo_MV "EdgeCache$Store" 30 14 yq_Sd_fits prog_11_method_2_code 2 ((Option.some Jvm.ClassFile.FieldType.boolean)) 1 := ⟨⟨(wg_t 29 rfl rfl), (wg_t 1107 rfl rfl), ⟨by decide +kernel, by decide +kernel, by decide +kernel⟩, (wg_t 1104 rfl rfl)⟩, (wg_t 1105 rfl rfl), 13, _, rfl, rfl, (wg_t 1106 rfl rfl)⟩
theorem lq_So_34 : wo_MV "EdgeCache$Store" 34 3 yq_Al_remove prog_29_method_29_code 4 ((Option.some (Jvm.ClassFile.FieldType.object "java/lang/Object"))) 1 := ⟨⟨(wg_t 5 rfl rfl), (wg_t 1006 rfl rfl), ⟨by decide +kernel, by decide +kernel, by decide +kernel⟩, (wg_t 1133 rfl rfl)⟩, (wg_t 1004 rfl rfl), 2, _, rfl, rfl, (wg_t 1005 rfl rfl)⟩
theorem lq_So_37 : wo_MV "EdgeCache$Store" 37 3 yq_Al_add_O prog_29_method_25_code 2 ((Option.some Jvm.ClassFile.FieldType.boolean)) 1 := ⟨⟨(wg_t 5 rfl rfl), (wg_t 905 rfl rfl), ⟨by decide +kernel, by decide +kernel, by decide +kernel⟩, (wg_t 1134 rfl rfl)⟩, (wg_t 903 rfl rfl), 2, _, rfl, rfl, (wg_t 904 rfl rfl)⟩
theorem lq_So_45 : wo_MV "EdgeCache$Store" 45 10 yq_St_equals prog_22_method_66_code 3 ((Option.some Jvm.ClassFile.FieldType.boolean)) 1 := ⟨⟨(wg_t 9 rfl rfl), (wg_t 622 rfl rfl), ⟨by decide +kernel, by decide +kernel, by decide +kernel⟩, (wg_t 1222 rfl rfl)⟩, (wg_t 620 rfl rfl), 9, _, rfl, rfl, (wg_t 621 rfl rfl)⟩
theorem lq_So_50 : wo_MV "EdgeCache$Store" 50 6 yq_So_drop prog_10_method_9_code 2 ((Option.none : Option Jvm.ClassFile.FieldType)) 1 := ⟨⟨(wg_t 11 rfl rfl), (wg_t 1217 rfl rfl), ⟨by decide +kernel, by decide +kernel, by decide +kernel⟩, (wg_t 1214 rfl rfl)⟩, (wg_t 1216 rfl rfl), 5, _, rfl, rfl, (wg_p 37 rfl rfl)⟩
theorem lq_So_9 : wo_MI "EdgeCache$Store" 9 yq_Al_init prog_29_method_2_code 1 0 := ⟨⟨(wg_t 5 rfl rfl), (wg_t 50 rfl rfl), ⟨by decide +kernel, by decide +kernel, by decide +kernel⟩, (wg_t 150 rfl rfl)⟩, rfl, (wg_t 49 rfl rfl)⟩
theorem lq_Sd_1 : Cond.methodLink "EdgeCache$Stored" 1 Lib.objectInit ∈ vw_WG := (wg_t 1232 rfl rfl)
theorem lq_Sd_31 : wo_MV "EdgeCache$Stored" 31 10 yq_St_equals prog_22_method_66_code 3 ((Option.some Jvm.ClassFile.FieldType.boolean)) 1 := ⟨⟨(wg_t 9 rfl rfl), (wg_t 622 rfl rfl), ⟨by decide +kernel, by decide +kernel, by decide +kernel⟩, (wg_t 1108 rfl rfl)⟩, (wg_t 620 rfl rfl), 9, _, rfl, rfl, (wg_t 621 rfl rfl)⟩
theorem lq_Sd_43 : wo_MV "EdgeCache$Stored" 43 14 yq_Sd_hasVariant prog_11_method_3_code 2 ((Option.some Jvm.ClassFile.FieldType.boolean)) 1 := ⟨⟨(wg_t 29 rfl rfl), (wg_t 1113 rfl rfl), ⟨by decide +kernel, by decide +kernel, by decide +kernel⟩, (wg_t 1109 rfl rfl)⟩, (wg_t 1111 rfl rfl), 13, _, rfl, rfl, (wg_p 30 rfl rfl)⟩
theorem lq_Sd_50 : wo_MS "EdgeCache$Stored" 50 yq_Tx_number prog_12_method_3_code 6 ((Option.some Jvm.ClassFile.FieldType.int)) 2 := ⟨⟨(wg_t 23 rfl rfl), (wg_t 1023 rfl rfl), ⟨by decide +kernel, by decide +kernel, by decide +kernel⟩, (wg_t 1122 rfl rfl)⟩, (wg_t 1022 rfl rfl)⟩
theorem lq_Sd_56 : Cond.methodLink "EdgeCache$Stored" 56 Lib.Math.max.name ∈ vw_WG := (wg_t 1123 rfl rfl)
theorem lq_Tx_100 : wo_MV "EdgeCache$Text" 100 5 yq_SB_charAt prog_23_method_88_code 2 ((Option.some Jvm.ClassFile.FieldType.char)) 1 := ⟨⟨(wg_t 8 rfl rfl), (wg_t 715 rfl rfl), ⟨by decide +kernel, by decide +kernel, by decide +kernel⟩, (wg_t 712 rfl rfl)⟩, (wg_t 713 rfl rfl), 4, _, rfl, rfl, (wg_t 714 rfl rfl)⟩
theorem lq_Tx_15 : wo_MV "EdgeCache$Text" 15 10 yq_St_length prog_22_method_54_code 1 ((Option.some Jvm.ClassFile.FieldType.int)) 0 := ⟨⟨(wg_t 9 rfl rfl), (wg_t 541 rfl rfl), ⟨by decide +kernel, by decide +kernel, by decide +kernel⟩, (wg_t 651 rfl rfl)⟩, (wg_t 539 rfl rfl), 9, _, rfl, rfl, (wg_t 540 rfl rfl)⟩
theorem lq_Tx_21 : wo_MV "EdgeCache$Text" 21 10 yq_St_charAt prog_22_method_56_code 2 ((Option.some Jvm.ClassFile.FieldType.char)) 1 := ⟨⟨(wg_t 9 rfl rfl), (wg_t 642 rfl rfl), ⟨by decide +kernel, by decide +kernel, by decide +kernel⟩, (wg_t 639 rfl rfl)⟩, (wg_t 640 rfl rfl), 9, _, rfl, rfl, (wg_t 641 rfl rfl)⟩
theorem lq_Tx_25 : wo_MS "EdgeCache$Text" 25 yq_Tx_isDigit prog_12_method_12_code 1 ((Option.some Jvm.ClassFile.FieldType.boolean)) 1 := ⟨⟨(wg_t 23 rfl rfl), (wg_t 658 rfl rfl), ⟨by decide +kernel, by decide +kernel, by decide +kernel⟩, (wg_t 656 rfl rfl)⟩, (wg_t 657 rfl rfl)⟩
theorem lq_Tx_29 : Cond.methodLink "EdgeCache$Text" 29 Lib.Math.max.name ∈ vw_WG := (wg_t 1024 rfl rfl)
theorem lq_Tx_37 : wo_MV "EdgeCache$Text" 37 10 yq_St_equals prog_22_method_66_code 3 ((Option.some Jvm.ClassFile.FieldType.boolean)) 1 := ⟨⟨(wg_t 9 rfl rfl), (wg_t 622 rfl rfl), ⟨by decide +kernel, by decide +kernel, by decide +kernel⟩, (wg_t 676 rfl rfl)⟩, (wg_t 620 rfl rfl), 9, _, rfl, rfl, (wg_t 621 rfl rfl)⟩
theorem lq_Tx_41 : wo_MS "EdgeCache$Text" 41 yq_Tx_whole prog_12_method_4_code 6 ((Option.some Jvm.ClassFile.FieldType.int)) 3 := ⟨⟨(wg_t 23 rfl rfl), (wg_t 741 rfl rfl), ⟨by decide +kernel, by decide +kernel, by decide +kernel⟩, (wg_t 886 rfl rfl)⟩, (wg_t 740 rfl rfl)⟩
theorem lq_Tx_45 : wo_MV "EdgeCache$Text" 45 10 yq_St_isEmpty prog_22_method_55_code 1 ((Option.some Jvm.ClassFile.FieldType.boolean)) 0 := ⟨⟨(wg_t 9 rfl rfl), (wg_t 521 rfl rfl), ⟨by decide +kernel, by decide +kernel, by decide +kernel⟩, (wg_t 638 rfl rfl)⟩, (wg_t 519 rfl rfl), 9, _, rfl, rfl, (wg_t 520 rfl rfl)⟩
theorem lq_Tx_49 : wo_MV "EdgeCache$Text" 49 5 yq_SB_setLength prog_23_method_89_code 2 ((Option.none : Option Jvm.ClassFile.FieldType)) 1 := ⟨⟨(wg_t 8 rfl rfl), (wg_t 497 rfl rfl), ⟨by decide +kernel, by decide +kernel, by decide +kernel⟩, (wg_t 650 rfl rfl)⟩, (wg_t 495 rfl rfl), 4, _, rfl, rfl, (wg_t 496 rfl rfl)⟩
theorem lq_Tx_55 : wo_MV "EdgeCache$Text" 55 5 yq_SB_append_C prog_23_method_14_code 2 ((Option.some (Jvm.ClassFile.FieldType.object "java/lang/StringBuilder"))) 1 := ⟨⟨(wg_t 8 rfl rfl), (wg_t 345 rfl rfl), ⟨by decide +kernel, by decide +kernel, by decide +kernel⟩, (wg_t 652 rfl rfl)⟩, (wg_t 343 rfl rfl), 4, _, rfl, rfl, (wg_t 344 rfl rfl)⟩
theorem lq_Tx_59 : wo_MS "EdgeCache$Text" 59 yq_Tx_hexadecimal prog_12_method_6_code 1 ((Option.some Jvm.ClassFile.FieldType.int)) 1 := ⟨⟨(wg_t 23 rfl rfl), (wg_t 655 rfl rfl), ⟨by decide +kernel, by decide +kernel, by decide +kernel⟩, (wg_t 653 rfl rfl)⟩, (wg_t 654 rfl rfl)⟩
theorem lq_Tx_63 : wo_MS "EdgeCache$Text" 63 yq_Tx_appendPair prog_12_method_8_code 4 ((Option.none : Option Jvm.ClassFile.FieldType)) 3 := ⟨⟨(wg_t 23 rfl rfl), (wg_t 661 rfl rfl), ⟨by decide +kernel, by decide +kernel, by decide +kernel⟩, (wg_t 659 rfl rfl)⟩, (wg_t 660 rfl rfl)⟩
theorem lq_Tx_67 : wo_MV "EdgeCache$Text" 67 5 yq_SB_toString prog_23_method_42_code 1 ((Option.some (Jvm.ClassFile.FieldType.object "java/lang/String"))) 0 := ⟨⟨(wg_t 8 rfl rfl), (wg_t 436 rfl rfl), ⟨by decide +kernel, by decide +kernel, by decide +kernel⟩, (wg_t 666 rfl rfl)⟩, (wg_t 434 rfl rfl), 4, _, rfl, rfl, (wg_t 435 rfl rfl)⟩
theorem lq_Tx_71 : wo_MS "EdgeCache$Text" 71 yq_Tx_isPlain prog_12_method_13_code 1 ((Option.some Jvm.ClassFile.FieldType.boolean)) 1 := ⟨⟨(wg_t 23 rfl rfl), (wg_t 664 rfl rfl), ⟨by decide +kernel, by decide +kernel, by decide +kernel⟩, (wg_t 662 rfl rfl)⟩, (wg_t 663 rfl rfl)⟩
theorem lq_Tx_76 : wo_MV "EdgeCache$Text" 76 10 yq_St_indexOf_I prog_22_method_79_code 2 ((Option.some Jvm.ClassFile.FieldType.int)) 1 := ⟨⟨(wg_t 9 rfl rfl), (wg_t 529 rfl rfl), ⟨by decide +kernel, by decide +kernel, by decide +kernel⟩, (wg_t 670 rfl rfl)⟩, (wg_t 527 rfl rfl), 9, _, rfl, rfl, (wg_t 528 rfl rfl)⟩
theorem lq_Tx_80 : wo_MV "EdgeCache$Text" 80 10 yq_St_substring_II prog_22_method_92_code 5 ((Option.some (Jvm.ClassFile.FieldType.object "java/lang/String"))) 2 := ⟨⟨(wg_t 9 rfl rfl), (wg_t 595 rfl rfl), ⟨by decide +kernel, by decide +kernel, by decide +kernel⟩, (wg_t 671 rfl rfl)⟩, (wg_t 593 rfl rfl), 9, _, rfl, rfl, (wg_t 594 rfl rfl)⟩
theorem lq_Tx_84 : wo_MS "EdgeCache$Text" 84 yq_Tx_addSegment prog_12_method_10_code 4 ((Option.none : Option Jvm.ClassFile.FieldType)) 3 := ⟨⟨(wg_t 23 rfl rfl), (wg_t 674 rfl rfl), ⟨by decide +kernel, by decide +kernel, by decide +kernel⟩, (wg_t 672 rfl rfl)⟩, (wg_t 673 rfl rfl)⟩
theorem lq_Tx_88 : wo_MV "EdgeCache$Text" 88 5 yq_SB_append_S prog_23_method_7_code 2 ((Option.some (Jvm.ClassFile.FieldType.object "java/lang/StringBuilder"))) 1 := ⟨⟨(wg_t 8 rfl rfl), (wg_t 681 rfl rfl), ⟨by decide +kernel, by decide +kernel, by decide +kernel⟩, (wg_t 678 rfl rfl)⟩, (wg_t 679 rfl rfl), 4, _, rfl, rfl, (wg_t 680 rfl rfl)⟩
theorem lq_Tx_9 : wo_MS "EdgeCache$Text" 9 yq_Tx_number prog_12_method_3_code 6 ((Option.some Jvm.ClassFile.FieldType.int)) 2 := ⟨⟨(wg_t 23 rfl rfl), (wg_t 1023 rfl rfl), ⟨by decide +kernel, by decide +kernel, by decide +kernel⟩, (wg_t 1127 rfl rfl)⟩, (wg_t 1022 rfl rfl)⟩
theorem lq_Tx_95 : wo_MS "EdgeCache$Text" 95 yq_Tx_lastSlash prog_12_method_11_code 2 ((Option.some Jvm.ClassFile.FieldType.int)) 1 := ⟨⟨(wg_t 23 rfl rfl), (wg_t 710 rfl rfl), ⟨by decide +kernel, by decide +kernel, by decide +kernel⟩, (wg_t 708 rfl rfl)⟩, (wg_t 709 rfl rfl)⟩
theorem lq_Tx_99 : wo_MV "EdgeCache$Text" 99 5 yq_SB_length prog_23_method_93_code 1 ((Option.some Jvm.ClassFile.FieldType.int)) 0 := ⟨⟨(wg_t 8 rfl rfl), (wg_t 456 rfl rfl), ⟨by decide +kernel, by decide +kernel, by decide +kernel⟩, (wg_t 711 rfl rfl)⟩, (wg_t 455 rfl rfl), 4, _, rfl, rfl, (wg_t 1766 rfl rfl)⟩
theorem lq_EC_1 : Cond.methodLink "EdgeCache" 1 Lib.objectInit ∈ vw_WG := (wg_t 35 rfl rfl)
theorem lq_EC_109 : wo_MV "EdgeCache" 109 4 yq_Sh_bare prog_9_method_2_code 3 ((Option.some (Jvm.ClassFile.FieldType.object "java/lang/String"))) 2 := ⟨⟨(wg_t 6 rfl rfl), (wg_t 769 rfl rfl), ⟨by decide +kernel, by decide +kernel, by decide +kernel⟩, (wg_t 766 rfl rfl)⟩, (wg_t 767 rfl rfl), 3, _, rfl, rfl, (wg_t 768 rfl rfl)⟩
theorem lq_EC_119 : wo_MV "EdgeCache" 119 1 yq_EC_sendWaiting prog_1_method_25_code 3 ((Option.none : Option Jvm.ClassFile.FieldType)) 0 := ⟨⟨(wg_t 1 rfl rfl), (wg_t 1139 rfl rfl), ⟨by decide +kernel, by decide +kernel, by decide +kernel⟩, (wg_t 1136 rfl rfl)⟩, (wg_t 1138 rfl rfl), 0, _, rfl, rfl, (wg_p 32 rfl rfl)⟩
theorem lq_EC_122 : wo_MV "EdgeCache" 122 1 yq_EC_deliver prog_1_method_26_code 2 ((Option.none : Option Jvm.ClassFile.FieldType)) 0 := ⟨⟨(wg_t 1 rfl rfl), (wg_t 1186 rfl rfl), ⟨by decide +kernel, by decide +kernel, by decide +kernel⟩, (wg_t 1183 rfl rfl)⟩, (wg_t 1185 rfl rfl), 0, _, rfl, rfl, (wg_p 34 rfl rfl)⟩
theorem lq_EC_125 : wo_MV "EdgeCache" 125 1 yq_EC_jobOn prog_1_method_18_code 2 ((Option.some (Jvm.ClassFile.FieldType.object "EdgeCache$Job"))) 1 := ⟨⟨(wg_t 1 rfl rfl), (wg_t 1194 rfl rfl), ⟨by decide +kernel, by decide +kernel, by decide +kernel⟩, (wg_t 1191 rfl rfl)⟩, (wg_t 1193 rfl rfl), 0, _, rfl, rfl, (wg_p 35 rfl rfl)⟩
theorem lq_EC_129 : wo_MV "EdgeCache" 129 11 yq_Jb_isDone prog_3_method_2_code 1 ((Option.some Jvm.ClassFile.FieldType.boolean)) 0 := ⟨⟨(wg_t 25 rfl rfl), (wg_t 1201 rfl rfl), ⟨by decide +kernel, by decide +kernel, by decide +kernel⟩, (wg_t 1198 rfl rfl)⟩, (wg_t 1199 rfl rfl), 10, _, rfl, rfl, (wg_t 1200 rfl rfl)⟩
theorem lq_EC_132 : wo_MV "EdgeCache" 132 2 yq_Og_work prog_4_method_2_code 2 ((Option.none : Option Jvm.ClassFile.FieldType)) 1 := ⟨⟨(wg_t 2 rfl rfl), (wg_t 843 rfl rfl), ⟨by decide +kernel, by decide +kernel, by decide +kernel⟩, (wg_t 840 rfl rfl)⟩, (wg_t 841 rfl rfl), 1, _, rfl, rfl, (wg_t 842 rfl rfl)⟩
theorem lq_EC_139 : wo_MV "EdgeCache" 139 1 yq_EC_answerTo prog_1_method_22_code 2 ((Option.some (Jvm.ClassFile.FieldType.object "java/lang/String"))) 1 := ⟨⟨(wg_t 1 rfl rfl), (wg_t 1029 rfl rfl), ⟨by decide +kernel, by decide +kernel, by decide +kernel⟩, (wg_t 1026 rfl rfl)⟩, (wg_t 1028 rfl rfl), 0, _, rfl, rfl, (wg_p 19 rfl rfl)⟩
theorem lq_EC_143 : wo_MV "EdgeCache" 143 9 yq_Rq_isRead prog_7_method_3_code 1 ((Option.some Jvm.ClassFile.FieldType.boolean)) 0 := ⟨⟨(wg_t 15 rfl rfl), (wg_t 1096 rfl rfl), ⟨by decide +kernel, by decide +kernel, by decide +kernel⟩, (wg_t 1093 rfl rfl)⟩, (wg_t 1094 rfl rfl), 8, _, rfl, rfl, (wg_t 1095 rfl rfl)⟩
theorem lq_EC_146 : wo_MV "EdgeCache" 146 1 yq_EC_takeRead prog_1_method_23_code 5 ((Option.none : Option Jvm.ClassFile.FieldType)) 1 := ⟨⟨(wg_t 1 rfl rfl), (wg_t 1209 rfl rfl), ⟨by decide +kernel, by decide +kernel, by decide +kernel⟩, (wg_t 1206 rfl rfl)⟩, (wg_t 1208 rfl rfl), 0, _, rfl, rfl, (wg_p 36 rfl rfl)⟩
theorem lq_EC_152 : wo_MV "EdgeCache" 152 6 yq_So_dropPath prog_10_method_5_code 3 ((Option.none : Option Jvm.ClassFile.FieldType)) 1 := ⟨⟨(wg_t 11 rfl rfl), (wg_t 1261 rfl rfl), ⟨by decide +kernel, by decide +kernel, by decide +kernel⟩, (wg_t 1258 rfl rfl)⟩, (wg_t 1259 rfl rfl), 5, _, rfl, rfl, (wg_t 1260 rfl rfl)⟩
theorem lq_EC_156 : wo_MS "EdgeCache" 156 yq_EC_spoil prog_1_method_24_code 2 ((Option.none : Option Jvm.ClassFile.FieldType)) 2 := ⟨⟨(wg_t 1 rfl rfl), (wg_t 1264 rfl rfl), ⟨by decide +kernel, by decide +kernel, by decide +kernel⟩, (wg_t 1262 rfl rfl)⟩, (wg_t 1263 rfl rfl)⟩
theorem lq_EC_160 : wo_MS "EdgeCache" 160 yq_EC_isUpstream prog_1_method_17_code 1 ((Option.some Jvm.ClassFile.FieldType.boolean)) 1 := ⟨⟨(wg_t 1 rfl rfl), (wg_t 1197 rfl rfl), ⟨by decide +kernel, by decide +kernel, by decide +kernel⟩, (wg_t 1195 rfl rfl)⟩, (wg_t 1196 rfl rfl)⟩
theorem lq_EC_163 : wo_MV "EdgeCache" 163 3 yq_Al_size prog_29_method_8_code 1 ((Option.some Jvm.ClassFile.FieldType.int)) 0 := ⟨⟨(wg_t 5 rfl rfl), (wg_t 860 rfl rfl), ⟨by decide +kernel, by decide +kernel, by decide +kernel⟩, (wg_t 1274 rfl rfl)⟩, (wg_t 858 rfl rfl), 2, _, rfl, rfl, (wg_t 859 rfl rfl)⟩
theorem lq_EC_166 : wo_MV "EdgeCache" 166 6 yq_So_count prog_10_method_2_code 1 ((Option.some Jvm.ClassFile.FieldType.int)) 0 := ⟨⟨(wg_t 11 rfl rfl), (wg_t 1282 rfl rfl), ⟨by decide +kernel, by decide +kernel, by decide +kernel⟩, (wg_t 1279 rfl rfl)⟩, (wg_t 1280 rfl rfl), 5, _, rfl, rfl, (wg_t 1281 rfl rfl)⟩
theorem lq_EC_17 : wo_MN "EdgeCache" 17 yq_Og_init prog_4_method_1_code 1 0 := ⟨"EdgeCache", List.mem_of_getElem? (i := 0) rfl, (wg_t 2 rfl rfl), (wg_t 44 rfl rfl), ⟨by decide +kernel, by decide +kernel, by decide +kernel⟩, rfl, (wg_t 43 rfl rfl)⟩
theorem lq_EC_175 : wo_MV "EdgeCache" 175 8 yq_Rd_finish prog_5_method_3_code 2 ((Option.some (Jvm.ClassFile.FieldType.object "EdgeCache$Request"))) 0 := ⟨⟨(wg_t 14 rfl rfl), (wg_t 761 rfl rfl), ⟨by decide +kernel, by decide +kernel, by decide +kernel⟩, (wg_t 758 rfl rfl)⟩, (wg_t 759 rfl rfl), 7, _, rfl, rfl, (wg_t 760 rfl rfl)⟩
theorem lq_EC_179 : wo_MV "EdgeCache" 179 7 yq_Cn_enlist prog_2_method_4_code 2 ((Option.none : Option Jvm.ClassFile.FieldType)) 1 := ⟨⟨(wg_t 13 rfl rfl), (wg_t 765 rfl rfl), ⟨by decide +kernel, by decide +kernel, by decide +kernel⟩, (wg_t 762 rfl rfl)⟩, (wg_t 763 rfl rfl), 6, _, rfl, rfl, (wg_t 764 rfl rfl)⟩
theorem lq_EC_183 : wo_MI "EdgeCache" 183 yq_Jb_init prog_3_method_1_code 3 2 := ⟨⟨(wg_t 25 rfl rfl), (wg_t 809 rfl rfl), ⟨by decide +kernel, by decide +kernel, by decide +kernel⟩, (wg_t 807 rfl rfl)⟩, rfl, (wg_t 808 rfl rfl)⟩
theorem lq_EC_186 : wo_MV "EdgeCache" 186 1 yq_EC_handleAtCache prog_1_method_20_code 3 ((Option.none : Option Jvm.ClassFile.FieldType)) 1 := ⟨⟨(wg_t 1 rfl rfl), (wg_t 1092 rfl rfl), ⟨by decide +kernel, by decide +kernel, by decide +kernel⟩, (wg_t 1089 rfl rfl)⟩, (wg_t 1091 rfl rfl), 0, _, rfl, rfl, (wg_p 29 rfl rfl)⟩
theorem lq_EC_189 : wo_MV "EdgeCache" 189 7 yq_Cn_deliver prog_2_method_5_code 1 ((Option.none : Option Jvm.ClassFile.FieldType)) 0 := ⟨⟨(wg_t 13 rfl rfl), (wg_t 1148 rfl rfl), ⟨by decide +kernel, by decide +kernel, by decide +kernel⟩, (wg_t 1145 rfl rfl)⟩, (wg_t 1146 rfl rfl), 6, _, rfl, rfl, (wg_t 1147 rfl rfl)⟩
theorem lq_EC_190 : wo_MV "EdgeCache" 190 6 yq_So_fitting prog_10_method_3_code 3 ((Option.some (Jvm.ClassFile.FieldType.object "EdgeCache$Stored"))) 1 := ⟨⟨(wg_t 11 rfl rfl), (wg_t 1100 rfl rfl), ⟨by decide +kernel, by decide +kernel, by decide +kernel⟩, (wg_t 1097 rfl rfl)⟩, (wg_t 1098 rfl rfl), 5, _, rfl, rfl, (wg_t 1099 rfl rfl)⟩
theorem lq_EC_194 : wo_MV "EdgeCache" 194 1 yq_EC_mayAnswer prog_1_method_21_code 6 ((Option.some Jvm.ClassFile.FieldType.boolean)) 2 := ⟨⟨(wg_t 1 rfl rfl), (wg_t 1117 rfl rfl), ⟨by decide +kernel, by decide +kernel, by decide +kernel⟩, (wg_t 1114 rfl rfl)⟩, (wg_t 1116 rfl rfl), 0, _, rfl, rfl, (wg_p 31 rfl rfl)⟩
theorem lq_EC_198 : wo_MV "EdgeCache" 198 6 yq_So_use prog_10_method_4_code 3 ((Option.none : Option Jvm.ClassFile.FieldType)) 1 := ⟨⟨(wg_t 11 rfl rfl), (wg_t 1132 rfl rfl), ⟨by decide +kernel, by decide +kernel, by decide +kernel⟩, (wg_t 1129 rfl rfl)⟩, (wg_t 1130 rfl rfl), 5, _, rfl, rfl, (wg_t 1131 rfl rfl)⟩
theorem lq_EC_211 : wo_MV "EdgeCache" 211 4 yq_Sh_select prog_9_method_3_code 4 ((Option.some (Jvm.ClassFile.FieldType.object "java/lang/String"))) 3 := ⟨⟨(wg_t 6 rfl rfl), (wg_t 1033 rfl rfl), ⟨by decide +kernel, by decide +kernel, by decide +kernel⟩, (wg_t 1030 rfl rfl)⟩, (wg_t 1031 rfl rfl), 3, _, rfl, rfl, (wg_t 1032 rfl rfl)⟩
theorem lq_EC_220 : wo_MV "EdgeCache" 220 3 yq_Al_add_O prog_29_method_25_code 2 ((Option.some Jvm.ClassFile.FieldType.boolean)) 1 := ⟨⟨(wg_t 5 rfl rfl), (wg_t 905 rfl rfl), ⟨by decide +kernel, by decide +kernel, by decide +kernel⟩, (wg_t 1135 rfl rfl)⟩, (wg_t 903 rfl rfl), 2, _, rfl, rfl, (wg_t 904 rfl rfl)⟩
theorem lq_EC_227 : wo_MV "EdgeCache" 227 14 yq_Sd_lifetime prog_11_method_4_code 2 ((Option.some Jvm.ClassFile.FieldType.int)) 0 := ⟨⟨(wg_t 29 rfl rfl), (wg_t 1121 rfl rfl), ⟨by decide +kernel, by decide +kernel, by decide +kernel⟩, (wg_t 1118 rfl rfl)⟩, (wg_t 1119 rfl rfl), 13, _, rfl, rfl, (wg_t 1120 rfl rfl)⟩
theorem lq_EC_230 : wo_MS "EdgeCache" 230 yq_Tx_counts prog_12_method_2_code 2 ((Option.some Jvm.ClassFile.FieldType.boolean)) 2 := ⟨⟨(wg_t 23 rfl rfl), (wg_t 1126 rfl rfl), ⟨by decide +kernel, by decide +kernel, by decide +kernel⟩, (wg_t 1124 rfl rfl)⟩, (wg_t 1125 rfl rfl)⟩
theorem lq_EC_239 : wo_MS "EdgeCache" 239 yq_Tx_number prog_12_method_3_code 6 ((Option.some Jvm.ClassFile.FieldType.int)) 2 := ⟨⟨(wg_t 23 rfl rfl), (wg_t 1023 rfl rfl), ⟨by decide +kernel, by decide +kernel, by decide +kernel⟩, (wg_t 1128 rfl rfl)⟩, (wg_t 1022 rfl rfl)⟩
theorem lq_EC_24 : wo_MN "EdgeCache" 24 yq_Sh_init prog_9_method_1_code 1 0 := ⟨"EdgeCache", List.mem_of_getElem? (i := 1) rfl, (wg_t 6 rfl rfl), (wg_t 84 rfl rfl), ⟨by decide +kernel, by decide +kernel, by decide +kernel⟩, rfl, (wg_t 83 rfl rfl)⟩
theorem lq_EC_249 : wo_MV "EdgeCache" 249 6 yq_So_dropFitting prog_10_method_6_code 3 ((Option.none : Option Jvm.ClassFile.FieldType)) 1 := ⟨⟨(wg_t 11 rfl rfl), (wg_t 1213 rfl rfl), ⟨by decide +kernel, by decide +kernel, by decide +kernel⟩, (wg_t 1210 rfl rfl)⟩, (wg_t 1211 rfl rfl), 5, _, rfl, rfl, (wg_t 1212 rfl rfl)⟩
theorem lq_EC_258 : wo_MV "EdgeCache" 258 6 yq_So_dropReplaced prog_10_method_7_code 6 ((Option.none : Option Jvm.ClassFile.FieldType)) 2 := ⟨⟨(wg_t 11 rfl rfl), (wg_t 1221 rfl rfl), ⟨by decide +kernel, by decide +kernel, by decide +kernel⟩, (wg_t 1218 rfl rfl)⟩, (wg_t 1219 rfl rfl), 5, _, rfl, rfl, (wg_t 1220 rfl rfl)⟩
theorem lq_EC_262 : wo_MV "EdgeCache" 262 4 yq_Sh_sizeOf prog_9_method_4_code 2 ((Option.some Jvm.ClassFile.FieldType.int)) 1 := ⟨⟨(wg_t 6 rfl rfl), (wg_t 1227 rfl rfl), ⟨by decide +kernel, by decide +kernel, by decide +kernel⟩, (wg_t 1224 rfl rfl)⟩, (wg_t 1225 rfl rfl), 3, _, rfl, rfl, (wg_t 1226 rfl rfl)⟩
theorem lq_EC_266 : wo_MI "EdgeCache" 266 yq_Sd_init prog_11_method_1_code 5 4 := ⟨⟨(wg_t 29 rfl rfl), (wg_t 1231 rfl rfl), ⟨by decide +kernel, by decide +kernel, by decide +kernel⟩, (wg_t 1229 rfl rfl)⟩, rfl, (wg_t 1230 rfl rfl)⟩
theorem lq_EC_269 : wo_MV "EdgeCache" 269 6 yq_So_keep prog_10_method_8_code 3 ((Option.none : Option Jvm.ClassFile.FieldType)) 1 := ⟨⟨(wg_t 11 rfl rfl), (wg_t 1257 rfl rfl), ⟨by decide +kernel, by decide +kernel, by decide +kernel⟩, (wg_t 1254 rfl rfl)⟩, (wg_t 1255 rfl rfl), 5, _, rfl, rfl, (wg_t 1256 rfl rfl)⟩
theorem lq_EC_272 : wo_MV "EdgeCache" 272 10 yq_St_equals prog_22_method_66_code 3 ((Option.some Jvm.ClassFile.FieldType.boolean)) 1 := ⟨⟨(wg_t 9 rfl rfl), (wg_t 622 rfl rfl), ⟨by decide +kernel, by decide +kernel, by decide +kernel⟩, (wg_t 1265 rfl rfl)⟩, (wg_t 620 rfl rfl), 9, _, rfl, rfl, (wg_t 621 rfl rfl)⟩
theorem lq_EC_277 : wo_MV "EdgeCache" 277 3 yq_Al_isEmpty prog_29_method_9_code 1 ((Option.some Jvm.ClassFile.FieldType.boolean)) 0 := ⟨⟨(wg_t 5 rfl rfl), (wg_t 1143 rfl rfl), ⟨by decide +kernel, by decide +kernel, by decide +kernel⟩, (wg_t 1140 rfl rfl)⟩, (wg_t 1141 rfl rfl), 2, _, rfl, rfl, (wg_t 1142 rfl rfl)⟩
theorem lq_EC_280 : wo_MV "EdgeCache" 280 3 yq_Al_remove prog_29_method_29_code 4 ((Option.some (Jvm.ClassFile.FieldType.object "java/lang/Object"))) 1 := ⟨⟨(wg_t 5 rfl rfl), (wg_t 1006 rfl rfl), ⟨by decide +kernel, by decide +kernel, by decide +kernel⟩, (wg_t 1144 rfl rfl)⟩, (wg_t 1004 rfl rfl), 2, _, rfl, rfl, (wg_t 1005 rfl rfl)⟩
theorem lq_EC_37 : wo_MI "EdgeCache" 37 yq_Al_init prog_29_method_2_code 1 0 := ⟨⟨(wg_t 5 rfl rfl), (wg_t 50 rfl rfl), ⟨by decide +kernel, by decide +kernel, by decide +kernel⟩, (wg_t 136 rfl rfl)⟩, rfl, (wg_t 49 rfl rfl)⟩
theorem lq_EC_44 : Cond.methodLink "EdgeCache" 44 Lib.Math.min.name ∈ vw_WG := (wg_t 139 rfl rfl)
theorem lq_EC_50 : Cond.methodLink "EdgeCache" 50 Lib.Math.max.name ∈ vw_WG := (wg_t 142 rfl rfl)
theorem lq_EC_53 : wo_MI "EdgeCache" 53 yq_So_init prog_10_method_1_code 2 1 := ⟨⟨(wg_t 11 rfl rfl), (wg_t 147 rfl rfl), ⟨by decide +kernel, by decide +kernel, by decide +kernel⟩, (wg_t 145 rfl rfl)⟩, rfl, (wg_t 146 rfl rfl)⟩
theorem lq_EC_60 : wo_MN "EdgeCache" 60 yq_Cn_init prog_2_method_1_code 1 0 := ⟨"EdgeCache", List.mem_of_getElem? (i := 2) rfl, (wg_t 13 rfl rfl), (wg_t 165 rfl rfl), ⟨by decide +kernel, by decide +kernel, by decide +kernel⟩, rfl, (wg_t 164 rfl rfl)⟩
theorem lq_EC_61 : wo_MS "EdgeCache" 61 yq_EC_isConnection prog_1_method_16_code 1 ((Option.some Jvm.ClassFile.FieldType.boolean)) 1 := ⟨⟨(wg_t 1 rfl rfl), (wg_t 325 rfl rfl), ⟨by decide +kernel, by decide +kernel, by decide +kernel⟩, (wg_t 323 rfl rfl)⟩, (wg_t 324 rfl rfl)⟩
theorem lq_EC_65 : wo_MV "EdgeCache" 65 7 yq_Cn_mayTake prog_2_method_2_code 1 ((Option.some Jvm.ClassFile.FieldType.boolean)) 0 := ⟨⟨(wg_t 13 rfl rfl), (wg_t 329 rfl rfl), ⟨by decide +kernel, by decide +kernel, by decide +kernel⟩, (wg_t 326 rfl rfl)⟩, (wg_t 327 rfl rfl), 6, _, rfl, rfl, (wg_t 328 rfl rfl)⟩
theorem lq_EC_73 : wo_MV "EdgeCache" 73 8 yq_Rd_take prog_5_method_2_code 3 ((Option.some Jvm.ClassFile.FieldType.int)) 1 := ⟨⟨(wg_t 14 rfl rfl), (wg_t 337 rfl rfl), ⟨by decide +kernel, by decide +kernel, by decide +kernel⟩, (wg_t 334 rfl rfl)⟩, (wg_t 335 rfl rfl), 7, _, rfl, rfl, (wg_t 336 rfl rfl)⟩
theorem lq_EC_79 : wo_MV "EdgeCache" 79 1 yq_EC_handle prog_1_method_19_code 6 ((Option.none : Option Jvm.ClassFile.FieldType)) 2 := ⟨⟨(wg_t 1 rfl rfl), (wg_t 757 rfl rfl), ⟨by decide +kernel, by decide +kernel, by decide +kernel⟩, (wg_t 754 rfl rfl)⟩, (wg_t 756 rfl rfl), 0, _, rfl, rfl, (wg_p 7 rfl rfl)⟩
theorem lq_EC_83 : wo_MV "EdgeCache" 83 7 yq_Cn_takeEight prog_2_method_7_code 5 ((Option.some Jvm.ClassFile.FieldType.long)) 0 := ⟨⟨(wg_t 13 rfl rfl), (wg_t 1162 rfl rfl), ⟨by decide +kernel, by decide +kernel, by decide +kernel⟩, (wg_t 1159 rfl rfl)⟩, (wg_t 1160 rfl rfl), 6, _, rfl, rfl, (wg_t 1161 rfl rfl)⟩
theorem lq_EC_91 : wo_MV "EdgeCache" 91 7 yq_Cn_unanswered prog_2_method_3_code 1 ((Option.some Jvm.ClassFile.FieldType.int)) 0 := ⟨⟨(wg_t 13 rfl rfl), (wg_t 333 rfl rfl), ⟨by decide +kernel, by decide +kernel, by decide +kernel⟩, (wg_t 1174 rfl rfl)⟩, (wg_t 331 rfl rfl), 6, _, rfl, rfl, (wg_t 332 rfl rfl)⟩
theorem lq_Md_1 : Cond.methodLink "EdgeCacheModel" 1 Lib.objectInit ∈ vw_WG := (wg_t 1303 rfl rfl)
theorem lq_Md_178 : wo_MV "EdgeCacheModel" 178 15 yq_Md_may prog_14_method_2_code 2 ((Option.some Jvm.ClassFile.FieldType.boolean)) 1 := ⟨⟨(wg_t 16 rfl rfl), (wg_t 1500 rfl rfl), ⟨by decide +kernel, by decide +kernel, by decide +kernel⟩, (wg_t 1497 rfl rfl)⟩, (wg_t 1499 rfl rfl), 14, _, rfl, rfl, (wg_p 38 rfl rfl)⟩
theorem lq_Md_182 : wo_MV "EdgeCacheModel" 182 15 yq_Md_comes prog_14_method_4_code 5 ((Option.none : Option Jvm.ClassFile.FieldType)) 2 := ⟨⟨(wg_t 16 rfl rfl), (wg_t 1504 rfl rfl), ⟨by decide +kernel, by decide +kernel, by decide +kernel⟩, (wg_t 1501 rfl rfl)⟩, (wg_t 1503 rfl rfl), 14, _, rfl, rfl, (wg_p 39 rfl rfl)⟩
theorem lq_Md_186 : wo_MV "EdgeCacheModel" 186 15 yq_Md_parse prog_14_method_6_code 6 ((Option.some Jvm.ClassFile.FieldType.int)) 1 := ⟨⟨(wg_t 16 rfl rfl), (wg_t 1508 rfl rfl), ⟨by decide +kernel, by decide +kernel, by decide +kernel⟩, (wg_t 1505 rfl rfl)⟩, (wg_t 1507 rfl rfl), 14, _, rfl, rfl, (wg_p 40 rfl rfl)⟩
theorem lq_Md_190 : wo_MV "EdgeCacheModel" 190 15 yq_Md_plain prog_14_method_28_code 2 ((Option.some Jvm.ClassFile.FieldType.int)) 1 := ⟨⟨(wg_t 16 rfl rfl), (wg_t 1557 rfl rfl), ⟨by decide +kernel, by decide +kernel, by decide +kernel⟩, (wg_t 1554 rfl rfl)⟩, (wg_t 1556 rfl rfl), 14, _, rfl, rfl, (wg_p 47 rfl rfl)⟩
theorem lq_Md_193 : wo_MV "EdgeCacheModel" 193 15 yq_Md_finish prog_14_method_34_code 6 ((Option.none : Option Jvm.ClassFile.FieldType)) 2 := ⟨⟨(wg_t 16 rfl rfl), (wg_t 1581 rfl rfl), ⟨by decide +kernel, by decide +kernel, by decide +kernel⟩, (wg_t 1578 rfl rfl)⟩, (wg_t 1580 rfl rfl), 14, _, rfl, rfl, (wg_p 53 rfl rfl)⟩
theorem lq_Md_196 : wo_MV "EdgeCacheModel" 196 15 yq_Md_direct prog_14_method_44_code 2 ((Option.none : Option Jvm.ClassFile.FieldType)) 0 := ⟨⟨(wg_t 16 rfl rfl), (wg_t 1585 rfl rfl), ⟨by decide +kernel, by decide +kernel, by decide +kernel⟩, (wg_t 1582 rfl rfl)⟩, (wg_t 1584 rfl rfl), 14, _, rfl, rfl, (wg_p 54 rfl rfl)⟩
theorem lq_Md_199 : wo_MV "EdgeCacheModel" 199 15 yq_Md_handle prog_14_method_48_code 6 ((Option.none : Option Jvm.ClassFile.FieldType)) 2 := ⟨⟨(wg_t 16 rfl rfl), (wg_t 1666 rfl rfl), ⟨by decide +kernel, by decide +kernel, by decide +kernel⟩, (wg_t 1663 rfl rfl)⟩, (wg_t 1665 rfl rfl), 14, _, rfl, rfl, (wg_p 73 rfl rfl)⟩
theorem lq_Md_202 : wo_MV "EdgeCacheModel" 202 15 yq_Md_lineEnd prog_14_method_5_code 4 ((Option.some Jvm.ClassFile.FieldType.int)) 2 := ⟨⟨(wg_t 16 rfl rfl), (wg_t 1512 rfl rfl), ⟨by decide +kernel, by decide +kernel, by decide +kernel⟩, (wg_t 1509 rfl rfl)⟩, (wg_t 1511 rfl rfl), 14, _, rfl, rfl, (wg_p 41 rfl rfl)⟩
theorem lq_Md_206 : wo_MV "EdgeCacheModel" 206 15 yq_Md_requestLine prog_14_method_7_code 13 ((Option.some Jvm.ClassFile.FieldType.int)) 2 := ⟨⟨(wg_t 16 rfl rfl), (wg_t 1516 rfl rfl), ⟨by decide +kernel, by decide +kernel, by decide +kernel⟩, (wg_t 1513 rfl rfl)⟩, (wg_t 1515 rfl rfl), 14, _, rfl, rfl, (wg_p 42 rfl rfl)⟩
theorem lq_Md_216 : wo_MV "EdgeCacheModel" 216 15 yq_Md_header prog_14_method_12_code 10 ((Option.some Jvm.ClassFile.FieldType.int)) 3 := ⟨⟨(wg_t 16 rfl rfl), (wg_t 1538 rfl rfl), ⟨by decide +kernel, by decide +kernel, by decide +kernel⟩, (wg_t 1535 rfl rfl)⟩, (wg_t 1537 rfl rfl), 14, _, rfl, rfl, (wg_p 44 rfl rfl)⟩
theorem lq_Md_220 : wo_MV "EdgeCacheModel" 220 15 yq_Md_chunks prog_14_method_14_code 7 ((Option.some Jvm.ClassFile.FieldType.int)) 2 := ⟨⟨(wg_t 16 rfl rfl), (wg_t 1549 rfl rfl), ⟨by decide +kernel, by decide +kernel, by decide +kernel⟩, (wg_t 1546 rfl rfl)⟩, (wg_t 1548 rfl rfl), 14, _, rfl, rfl, (wg_p 45 rfl rfl)⟩
theorem lq_Md_223 : wo_MV "EdgeCacheModel" 223 15 yq_Md_plainBody prog_14_method_13_code 5 ((Option.some Jvm.ClassFile.FieldType.int)) 2 := ⟨⟨(wg_t 16 rfl rfl), (wg_t 1553 rfl rfl), ⟨by decide +kernel, by decide +kernel, by decide +kernel⟩, (wg_t 1550 rfl rfl)⟩, (wg_t 1552 rfl rfl), 14, _, rfl, rfl, (wg_p 46 rfl rfl)⟩
theorem lq_Md_236 : wo_MS "EdgeCacheModel" 236 yq_Md_hex prog_14_method_8_code 1 ((Option.some Jvm.ClassFile.FieldType.int)) 1 := ⟨⟨(wg_t 16 rfl rfl), (wg_t 1524 rfl rfl), ⟨by decide +kernel, by decide +kernel, by decide +kernel⟩, (wg_t 1522 rfl rfl)⟩, (wg_t 1523 rfl rfl)⟩
theorem lq_Md_239 : wo_MS "EdgeCacheModel" 239 yq_Md_unreserved prog_14_method_10_code 1 ((Option.some Jvm.ClassFile.FieldType.boolean)) 1 := ⟨⟨(wg_t 16 rfl rfl), (wg_t 1527 rfl rfl), ⟨by decide +kernel, by decide +kernel, by decide +kernel⟩, (wg_t 1525 rfl rfl)⟩, (wg_t 1526 rfl rfl)⟩
theorem lq_Md_242 : wo_MS "EdgeCacheModel" 242 yq_Md_digit prog_14_method_9_code 1 ((Option.some Jvm.ClassFile.FieldType.int)) 1 := ⟨⟨(wg_t 16 rfl rfl), (wg_t 1530 rfl rfl), ⟨by decide +kernel, by decide +kernel, by decide +kernel⟩, (wg_t 1528 rfl rfl)⟩, (wg_t 1529 rfl rfl)⟩
theorem lq_Md_245 : wo_MV "EdgeCacheModel" 245 15 yq_Md_normal prog_14_method_11_code 9 ((Option.some Jvm.ClassFile.FieldType.int)) 1 := ⟨⟨(wg_t 16 rfl rfl), (wg_t 1534 rfl rfl), ⟨by decide +kernel, by decide +kernel, by decide +kernel⟩, (wg_t 1531 rfl rfl)⟩, (wg_t 1533 rfl rfl), 14, _, rfl, rfl, (wg_p 43 rfl rfl)⟩
theorem lq_Md_248 : wo_MS "EdgeCacheModel" 248 yq_Md_digits prog_14_method_16_code 7 ((Option.some Jvm.ClassFile.FieldType.int)) 3 := ⟨⟨(wg_t 16 rfl rfl), (wg_t 1541 rfl rfl), ⟨by decide +kernel, by decide +kernel, by decide +kernel⟩, (wg_t 1539 rfl rfl)⟩, (wg_t 1540 rfl rfl)⟩
theorem lq_Md_254 : wo_MS "EdgeCacheModel" 254 yq_Md_byteOf prog_14_method_15_code 3 ((Option.some Jvm.ClassFile.FieldType.int)) 2 := ⟨⟨(wg_t 16 rfl rfl), (wg_t 1544 rfl rfl), ⟨by decide +kernel, by decide +kernel, by decide +kernel⟩, (wg_t 1542 rfl rfl)⟩, (wg_t 1543 rfl rfl)⟩
theorem lq_Md_258 : wo_MV "EdgeCacheModel" 258 15 yq_Md_has prog_14_method_18_code 3 ((Option.some Jvm.ClassFile.FieldType.boolean)) 2 := ⟨⟨(wg_t 16 rfl rfl), (wg_t 1605 rfl rfl), ⟨by decide +kernel, by decide +kernel, by decide +kernel⟩, (wg_t 1602 rfl rfl)⟩, (wg_t 1604 rfl rfl), 14, _, rfl, rfl, (wg_p 59 rfl rfl)⟩
theorem lq_Md_262 : wo_MS "EdgeCacheModel" 262 yq_Md_numberOf prog_14_method_17_code 6 ((Option.some Jvm.ClassFile.FieldType.int)) 3 := ⟨⟨(wg_t 16 rfl rfl), (wg_t 1638 rfl rfl), ⟨by decide +kernel, by decide +kernel, by decide +kernel⟩, (wg_t 1636 rfl rfl)⟩, (wg_t 1637 rfl rfl)⟩
theorem lq_Md_270 : wo_MV "EdgeCacheModel" 270 15 yq_Md_put prog_14_method_22_code 2 ((Option.none : Option Jvm.ClassFile.FieldType)) 1 := ⟨⟨(wg_t 16 rfl rfl), (wg_t 1569 rfl rfl), ⟨by decide +kernel, by decide +kernel, by decide +kernel⟩, (wg_t 1566 rfl rfl)⟩, (wg_t 1568 rfl rfl), 14, _, rfl, rfl, (wg_p 50 rfl rfl)⟩
theorem lq_Md_274 : wo_MV "EdgeCacheModel" 274 15 yq_Md_name prog_14_method_25_code 2 ((Option.none : Option Jvm.ClassFile.FieldType)) 1 := ⟨⟨(wg_t 16 rfl rfl), (wg_t 1577 rfl rfl), ⟨by decide +kernel, by decide +kernel, by decide +kernel⟩, (wg_t 1574 rfl rfl)⟩, (wg_t 1576 rfl rfl), 14, _, rfl, rfl, (wg_p 52 rfl rfl)⟩
theorem lq_Md_277 : wo_MV "EdgeCacheModel" 277 15 yq_Md_putNumber prog_14_method_23_code 3 ((Option.none : Option Jvm.ClassFile.FieldType)) 1 := ⟨⟨(wg_t 16 rfl rfl), (wg_t 1565 rfl rfl), ⟨by decide +kernel, by decide +kernel, by decide +kernel⟩, (wg_t 1562 rfl rfl)⟩, (wg_t 1564 rfl rfl), 14, _, rfl, rfl, (wg_p 49 rfl rfl)⟩
theorem lq_Md_280 : wo_MV "EdgeCacheModel" 280 15 yq_Md_begin prog_14_method_27_code 2 ((Option.none : Option Jvm.ClassFile.FieldType)) 1 := ⟨⟨(wg_t 16 rfl rfl), (wg_t 1561 rfl rfl), ⟨by decide +kernel, by decide +kernel, by decide +kernel⟩, (wg_t 1558 rfl rfl)⟩, (wg_t 1560 rfl rfl), 14, _, rfl, rfl, (wg_p 48 rfl rfl)⟩
theorem lq_Md_283 : wo_MV "EdgeCacheModel" 283 15 yq_Md_putLine prog_14_method_26_code 3 ((Option.none : Option Jvm.ClassFile.FieldType)) 2 := ⟨⟨(wg_t 16 rfl rfl), (wg_t 1573 rfl rfl), ⟨by decide +kernel, by decide +kernel, by decide +kernel⟩, (wg_t 1570 rfl rfl)⟩, (wg_t 1572 rfl rfl), 14, _, rfl, rfl, (wg_p 51 rfl rfl)⟩
theorem lq_Md_286 : wo_MV "EdgeCacheModel" 286 15 yq_Md_putBytes prog_14_method_24_code 6 ((Option.none : Option Jvm.ClassFile.FieldType)) 3 := ⟨⟨(wg_t 16 rfl rfl), (wg_t 1650 rfl rfl), ⟨by decide +kernel, by decide +kernel, by decide +kernel⟩, (wg_t 1647 rfl rfl)⟩, (wg_t 1649 rfl rfl), 14, _, rfl, rfl, (wg_p 69 rfl rfl)⟩
theorem lq_Md_290 : wo_MV "EdgeCacheModel" 290 15 yq_Md_head prog_14_method_29_code 4 ((Option.none : Option Jvm.ClassFile.FieldType)) 3 := ⟨⟨(wg_t 16 rfl rfl), (wg_t 1646 rfl rfl), ⟨by decide +kernel, by decide +kernel, by decide +kernel⟩, (wg_t 1643 rfl rfl)⟩, (wg_t 1645 rfl rfl), 14, _, rfl, rfl, (wg_p 68 rfl rfl)⟩
theorem lq_Md_294 : wo_MV "EdgeCacheModel" 294 15 yq_Md_matches prog_14_method_21_code 9 ((Option.some Jvm.ClassFile.FieldType.boolean)) 3 := ⟨⟨(wg_t 16 rfl rfl), (wg_t 1609 rfl rfl), ⟨by decide +kernel, by decide +kernel, by decide +kernel⟩, (wg_t 1606 rfl rfl)⟩, (wg_t 1608 rfl rfl), 14, _, rfl, rfl, (wg_p 60 rfl rfl)⟩
theorem lq_Md_298 : wo_MV "EdgeCacheModel" 298 15 yq_Md_pieces prog_14_method_32_code 16 ((Option.some Jvm.ClassFile.FieldType.int)) 3 := ⟨⟨(wg_t 16 rfl rfl), (wg_t 1654 rfl rfl), ⟨by decide +kernel, by decide +kernel, by decide +kernel⟩, (wg_t 1651 rfl rfl)⟩, (wg_t 1653 rfl rfl), 14, _, rfl, rfl, (wg_p 70 rfl rfl)⟩
theorem lq_Md_301 : wo_MV "EdgeCacheModel" 301 15 yq_Md_whole prog_14_method_30_code 4 ((Option.none : Option Jvm.ClassFile.FieldType)) 3 := ⟨⟨(wg_t 16 rfl rfl), (wg_t 1658 rfl rfl), ⟨by decide +kernel, by decide +kernel, by decide +kernel⟩, (wg_t 1655 rfl rfl)⟩, (wg_t 1657 rfl rfl), 14, _, rfl, rfl, (wg_p 71 rfl rfl)⟩
theorem lq_Md_305 : wo_MV "EdgeCacheModel" 305 15 yq_Md_part prog_14_method_33_code 5 ((Option.none : Option Jvm.ClassFile.FieldType)) 3 := ⟨⟨(wg_t 16 rfl rfl), (wg_t 1662 rfl rfl), ⟨by decide +kernel, by decide +kernel, by decide +kernel⟩, (wg_t 1659 rfl rfl)⟩, (wg_t 1661 rfl rfl), 14, _, rfl, rfl, (wg_p 72 rfl rfl)⟩
theorem lq_Md_308 : wo_MV "EdgeCacheModel" 308 15 yq_Md_letters prog_14_method_37_code 4 ((Option.some Jvm.ClassFile.FieldType.int)) 1 := ⟨⟨(wg_t 16 rfl rfl), (wg_t 1631 rfl rfl), ⟨by decide +kernel, by decide +kernel, by decide +kernel⟩, (wg_t 1628 rfl rfl)⟩, (wg_t 1630 rfl rfl), 14, _, rfl, rfl, (wg_p 65 rfl rfl)⟩
theorem lq_Md_311 : wo_MV "EdgeCacheModel" 311 15 yq_Md_least prog_14_method_36_code 2 ((Option.some Jvm.ClassFile.FieldType.int)) 1 := ⟨⟨(wg_t 16 rfl rfl), (wg_t 1597 rfl rfl), ⟨by decide +kernel, by decide +kernel, by decide +kernel⟩, (wg_t 1594 rfl rfl)⟩, (wg_t 1596 rfl rfl), 14, _, rfl, rfl, (wg_p 57 rfl rfl)⟩
theorem lq_Md_314 : wo_MV "EdgeCacheModel" 314 15 yq_Md_inValue prog_14_method_19_code 4 ((Option.some Jvm.ClassFile.FieldType.int)) 3 := ⟨⟨(wg_t 16 rfl rfl), (wg_t 1635 rfl rfl), ⟨by decide +kernel, by decide +kernel, by decide +kernel⟩, (wg_t 1632 rfl rfl)⟩, (wg_t 1634 rfl rfl), 14, _, rfl, rfl, (wg_p 66 rfl rfl)⟩
theorem lq_Md_317 : wo_MV "EdgeCacheModel" 317 15 yq_Md_resource prog_14_method_35_code 3 ((Option.some Jvm.ClassFile.FieldType.int)) 1 := ⟨⟨(wg_t 16 rfl rfl), (wg_t 1593 rfl rfl), ⟨by decide +kernel, by decide +kernel, by decide +kernel⟩, (wg_t 1590 rfl rfl)⟩, (wg_t 1592 rfl rfl), 14, _, rfl, rfl, (wg_p 56 rfl rfl)⟩
theorem lq_Md_320 : wo_MV "EdgeCacheModel" 320 15 yq_Md_choose prog_14_method_38_code 7 ((Option.some Jvm.ClassFile.FieldType.int)) 2 := ⟨⟨(wg_t 16 rfl rfl), (wg_t 1627 rfl rfl), ⟨by decide +kernel, by decide +kernel, by decide +kernel⟩, (wg_t 1624 rfl rfl)⟩, (wg_t 1626 rfl rfl), 14, _, rfl, rfl, (wg_p 64 rfl rfl)⟩
theorem lq_Md_323 : wo_MV "EdgeCacheModel" 323 15 yq_Md_holds prog_14_method_40_code 3 ((Option.some Jvm.ClassFile.FieldType.boolean)) 2 := ⟨⟨(wg_t 16 rfl rfl), (wg_t 1601 rfl rfl), ⟨by decide +kernel, by decide +kernel, by decide +kernel⟩, (wg_t 1598 rfl rfl)⟩, (wg_t 1600 rfl rfl), 14, _, rfl, rfl, (wg_p 58 rfl rfl)⟩
theorem lq_Md_328 : wo_MV "EdgeCacheModel" 328 15 yq_Md_freshResource prog_14_method_42_code 4 ((Option.some Jvm.ClassFile.FieldType.int)) 1 := ⟨⟨(wg_t 16 rfl rfl), (wg_t 1615 rfl rfl), ⟨by decide +kernel, by decide +kernel, by decide +kernel⟩, (wg_t 1612 rfl rfl)⟩, (wg_t 1614 rfl rfl), 14, _, rfl, rfl, (wg_p 61 rfl rfl)⟩
theorem lq_Md_334 : wo_MV "EdgeCacheModel" 334 15 yq_Md_change prog_14_method_41_code 8 ((Option.some Jvm.ClassFile.FieldType.int)) 1 := ⟨⟨(wg_t 16 rfl rfl), (wg_t 1589 rfl rfl), ⟨by decide +kernel, by decide +kernel, by decide +kernel⟩, (wg_t 1586 rfl rfl)⟩, (wg_t 1588 rfl rfl), 14, _, rfl, rfl, (wg_p 55 rfl rfl)⟩
theorem lq_Md_337 : wo_MV "EdgeCacheModel" 337 15 yq_Md_changed prog_14_method_43_code 3 ((Option.none : Option Jvm.ClassFile.FieldType)) 2 := ⟨⟨(wg_t 16 rfl rfl), (wg_t 1619 rfl rfl), ⟨by decide +kernel, by decide +kernel, by decide +kernel⟩, (wg_t 1616 rfl rfl)⟩, (wg_t 1618 rfl rfl), 14, _, rfl, rfl, (wg_p 62 rfl rfl)⟩
theorem lq_Md_340 : wo_MV "EdgeCacheModel" 340 15 yq_Md_ask prog_14_method_39_code 5 ((Option.some Jvm.ClassFile.FieldType.int)) 2 := ⟨⟨(wg_t 16 rfl rfl), (wg_t 1623 rfl rfl), ⟨by decide +kernel, by decide +kernel, by decide +kernel⟩, (wg_t 1620 rfl rfl)⟩, (wg_t 1622 rfl rfl), 14, _, rfl, rfl, (wg_p 63 rfl rfl)⟩
theorem lq_Md_343 : wo_MV "EdgeCacheModel" 343 15 yq_Md_select prog_14_method_31_code 7 ((Option.none : Option Jvm.ClassFile.FieldType)) 3 := ⟨⟨(wg_t 16 rfl rfl), (wg_t 1642 rfl rfl), ⟨by decide +kernel, by decide +kernel, by decide +kernel⟩, (wg_t 1639 rfl rfl)⟩, (wg_t 1641 rfl rfl), 14, _, rfl, rfl, (wg_p 67 rfl rfl)⟩
theorem lq_Md_346 : wo_MV "EdgeCacheModel" 346 15 yq_Md_samePath prog_14_method_45_code 3 ((Option.some Jvm.ClassFile.FieldType.boolean)) 2 := ⟨⟨(wg_t 16 rfl rfl), (wg_t 1674 rfl rfl), ⟨by decide +kernel, by decide +kernel, by decide +kernel⟩, (wg_t 1671 rfl rfl)⟩, (wg_t 1673 rfl rfl), 14, _, rfl, rfl, (wg_p 75 rfl rfl)⟩
theorem lq_Md_352 : wo_MV "EdgeCacheModel" 352 15 yq_Md_inPolicy prog_14_method_20_code 3 ((Option.some Jvm.ClassFile.FieldType.int)) 2 := ⟨⟨(wg_t 16 rfl rfl), (wg_t 1682 rfl rfl), ⟨by decide +kernel, by decide +kernel, by decide +kernel⟩, (wg_t 1679 rfl rfl)⟩, (wg_t 1681 rfl rfl), 14, _, rfl, rfl, (wg_p 77 rfl rfl)⟩
theorem lq_Md_355 : wo_MV "EdgeCacheModel" 355 15 yq_Md_fits prog_14_method_46_code 3 ((Option.some Jvm.ClassFile.FieldType.boolean)) 2 := ⟨⟨(wg_t 16 rfl rfl), (wg_t 1670 rfl rfl), ⟨by decide +kernel, by decide +kernel, by decide +kernel⟩, (wg_t 1667 rfl rfl)⟩, (wg_t 1669 rfl rfl), 14, _, rfl, rfl, (wg_p 74 rfl rfl)⟩
theorem lq_Md_358 : wo_MV "EdgeCacheModel" 358 15 yq_Md_usable prog_14_method_47_code 6 ((Option.some Jvm.ClassFile.FieldType.boolean)) 2 := ⟨⟨(wg_t 16 rfl rfl), (wg_t 1678 rfl rfl), ⟨by decide +kernel, by decide +kernel, by decide +kernel⟩, (wg_t 1675 rfl rfl)⟩, (wg_t 1677 rfl rfl), 14, _, rfl, rfl, (wg_p 76 rfl rfl)⟩
theorem lq_Md_367 : wo_MV "EdgeCacheModel" 367 15 yq_Md_copy prog_14_method_49_code 3 ((Option.none : Option Jvm.ClassFile.FieldType)) 2 := ⟨⟨(wg_t 16 rfl rfl), (wg_t 1686 rfl rfl), ⟨by decide +kernel, by decide +kernel, by decide +kernel⟩, (wg_t 1683 rfl rfl)⟩, (wg_t 1685 rfl rfl), 14, _, rfl, rfl, (wg_p 78 rfl rfl)⟩
theorem lq_Md_370 : wo_MV "EdgeCacheModel" 370 15 yq_Md_send prog_14_method_51_code 4 ((Option.none : Option Jvm.ClassFile.FieldType)) 0 := ⟨⟨(wg_t 16 rfl rfl), (wg_t 1690 rfl rfl), ⟨by decide +kernel, by decide +kernel, by decide +kernel⟩, (wg_t 1687 rfl rfl)⟩, (wg_t 1689 rfl rfl), 14, _, rfl, rfl, (wg_p 79 rfl rfl)⟩
theorem lq_Md_373 : wo_MV "EdgeCacheModel" 373 15 yq_Md_jobOn prog_14_method_50_code 3 ((Option.some Jvm.ClassFile.FieldType.int)) 1 := ⟨⟨(wg_t 16 rfl rfl), (wg_t 1694 rfl rfl), ⟨by decide +kernel, by decide +kernel, by decide +kernel⟩, (wg_t 1691 rfl rfl)⟩, (wg_t 1693 rfl rfl), 14, _, rfl, rfl, (wg_p 80 rfl rfl)⟩
theorem lq_Md_376 : wo_MV "EdgeCacheModel" 376 15 yq_Md_invalidate prog_14_method_54_code 4 ((Option.none : Option Jvm.ClassFile.FieldType)) 2 := ⟨⟨(wg_t 16 rfl rfl), (wg_t 1706 rfl rfl), ⟨by decide +kernel, by decide +kernel, by decide +kernel⟩, (wg_t 1703 rfl rfl)⟩, (wg_t 1705 rfl rfl), 14, _, rfl, rfl, (wg_p 81 rfl rfl)⟩
theorem lq_Md_379 : wo_MV "EdgeCacheModel" 379 15 yq_Md_store prog_14_method_55_code 6 ((Option.none : Option Jvm.ClassFile.FieldType)) 1 := ⟨⟨(wg_t 16 rfl rfl), (wg_t 1710 rfl rfl), ⟨by decide +kernel, by decide +kernel, by decide +kernel⟩, (wg_t 1707 rfl rfl)⟩, (wg_t 1709 rfl rfl), 14, _, rfl, rfl, (wg_p 82 rfl rfl)⟩
theorem lq_Md_382 : wo_MV "EdgeCacheModel" 382 15 yq_Md_bytes prog_14_method_64_code 3 ((Option.some Jvm.ClassFile.FieldType.int)) 0 := ⟨⟨(wg_t 16 rfl rfl), (wg_t 1714 rfl rfl), ⟨by decide +kernel, by decide +kernel, by decide +kernel⟩, (wg_t 1711 rfl rfl)⟩, (wg_t 1712 rfl rfl), 14, _, rfl, rfl, (wg_t 1713 rfl rfl)⟩
theorem lq_AB_100 : wo_MV "java/lang/AbstractStringBuilder" 100 5 yq_AB_ensureCapacityInternal prog_16_method_9_code 3 ((Option.none : Option Jvm.ClassFile.FieldType)) 1 := ⟨⟨(wg_t 7 rfl rfl), (wg_t 352 rfl rfl), ⟨by decide +kernel, by decide +kernel, by decide +kernel⟩, (wg_t 349 rfl rfl)⟩, (wg_t 351 rfl rfl), 4, _, rfl, rfl, (wg_s 0 rfl)⟩
theorem lq_AB_104 : wo_MV "java/lang/AbstractStringBuilder" 104 5 yq_AB_newCapacity prog_16_method_10_code 6 ((Option.some Jvm.ClassFile.FieldType.int)) 1 := ⟨⟨(wg_t 7 rfl rfl), (wg_t 356 rfl rfl), ⟨by decide +kernel, by decide +kernel, by decide +kernel⟩, (wg_t 353 rfl rfl)⟩, (wg_t 355 rfl rfl), 4, _, rfl, rfl, (wg_s 1 rfl)⟩
theorem lq_AB_108 : wo_MS "java/lang/AbstractStringBuilder" 108 yq_Ar_copyOf_aBI prog_30_method_121_code 3 ((Option.some (Jvm.ClassFile.FieldType.array Jvm.ClassFile.FieldType.byte))) 2 := ⟨⟨(wg_t 18 rfl rfl), (wg_t 368 rfl rfl), ⟨by decide +kernel, by decide +kernel, by decide +kernel⟩, (wg_t 366 rfl rfl)⟩, (wg_t 367 rfl rfl)⟩
theorem lq_AB_114 : wo_MS "java/lang/AbstractStringBuilder" 114 yq_As_newLength prog_36_method_27_code 4 ((Option.some Jvm.ClassFile.FieldType.int)) 3 := ⟨⟨(wg_t 17 rfl rfl), (wg_t 359 rfl rfl), ⟨by decide +kernel, by decide +kernel, by decide +kernel⟩, (wg_t 357 rfl rfl)⟩, (wg_t 358 rfl rfl)⟩
theorem lq_AB_133 : wo_MS "java/lang/AbstractStringBuilder" 133 yq_La_fillNull prog_24_method_48_code 3 ((Option.none : Option Jvm.ClassFile.FieldType)) 3 := ⟨⟨(wg_t 20 rfl rfl), (wg_t 503 rfl rfl), ⟨by decide +kernel, by decide +kernel, by decide +kernel⟩, (wg_t 501 rfl rfl)⟩, (wg_t 502 rfl rfl)⟩
theorem lq_AB_138 : Cond.methodLink "java/lang/AbstractStringBuilder" 138 Lib.Math.min.name ∈ vw_WG := (wg_t 719 rfl rfl)
theorem lq_AB_144 : wo_MS "java/lang/AbstractStringBuilder" 144 yq_St_checkIndex prog_22_method_155_code 2 ((Option.none : Option Jvm.ClassFile.FieldType)) 2 := ⟨⟨(wg_t 9 rfl rfl), (wg_t 429 rfl rfl), ⟨by decide +kernel, by decide +kernel, by decide +kernel⟩, (wg_t 720 rfl rfl)⟩, (wg_t 428 rfl rfl)⟩
theorem lq_AB_191 : wo_MS "java/lang/AbstractStringBuilder" 191 yq_La_canEncode_C prog_24_method_3_code 1 ((Option.some Jvm.ClassFile.FieldType.boolean)) 1 := ⟨⟨(wg_t 20 rfl rfl), (wg_t 387 rfl rfl), ⟨by decide +kernel, by decide +kernel, by decide +kernel⟩, (wg_t 385 rfl rfl)⟩, (wg_t 386 rfl rfl)⟩
theorem lq_AB_208 : wo_MV "java/lang/AbstractStringBuilder" 208 5 yq_AB_putStringAt prog_16_method_73_code 3 ((Option.none : Option Jvm.ClassFile.FieldType)) 2 := ⟨⟨(wg_t 7 rfl rfl), (wg_t 696 rfl rfl), ⟨by decide +kernel, by decide +kernel, by decide +kernel⟩, (wg_t 693 rfl rfl)⟩, (wg_t 695 rfl rfl), 4, _, rfl, rfl, (wg_s 4 rfl)⟩
theorem lq_AB_245 : wo_MS "java/lang/AbstractStringBuilder" 245 yq_It_stringSize prog_19_method_13_code 4 ((Option.some Jvm.ClassFile.FieldType.int)) 1 := ⟨⟨(wg_t 24 rfl rfl), (wg_t 784 rfl rfl), ⟨by decide +kernel, by decide +kernel, by decide +kernel⟩, (wg_t 782 rfl rfl)⟩, (wg_t 783 rfl rfl)⟩
theorem lq_AB_248 : wo_MS "java/lang/AbstractStringBuilder" 248 yq_It_getChars prog_19_method_12_code 7 ((Option.some Jvm.ClassFile.FieldType.int)) 3 := ⟨⟨(wg_t 24 rfl rfl), (wg_t 787 rfl rfl), ⟨by decide +kernel, by decide +kernel, by decide +kernel⟩, (wg_t 785 rfl rfl)⟩, (wg_t 786 rfl rfl)⟩
theorem lq_AB_3 : Cond.methodLink "java/lang/AbstractStringBuilder" 3 Lib.objectInit ∈ vw_WG := (wg_t 94 rfl rfl)
theorem lq_AB_32 : wo_MV "java/lang/AbstractStringBuilder" 32 10 yq_St_length prog_22_method_54_code 1 ((Option.some Jvm.ClassFile.FieldType.int)) 0 := ⟨⟨(wg_t 9 rfl rfl), (wg_t 541 rfl rfl), ⟨by decide +kernel, by decide +kernel, by decide +kernel⟩, (wg_t 692 rfl rfl)⟩, (wg_t 539 rfl rfl), 9, _, rfl, rfl, (wg_t 540 rfl rfl)⟩
theorem lq_AB_397 : wo_MV "java/lang/AbstractStringBuilder" 397 5 yq_AB_inflateIfNeededFor prog_16_method_71_code 2 ((Option.none : Option Jvm.ClassFile.FieldType)) 1 := ⟨⟨(wg_t 7 rfl rfl), (wg_t 700 rfl rfl), ⟨by decide +kernel, by decide +kernel, by decide +kernel⟩, (wg_t 697 rfl rfl)⟩, (wg_t 699 rfl rfl), 4, _, rfl, rfl, (wg_s 5 rfl)⟩
theorem lq_AB_399 : wo_MV "java/lang/AbstractStringBuilder" 399 10 yq_St_getBytes prog_22_method_147_code 4 ((Option.none : Option Jvm.ClassFile.FieldType)) 3 := ⟨⟨(wg_t 9 rfl rfl), (wg_t 705 rfl rfl), ⟨by decide +kernel, by decide +kernel, by decide +kernel⟩, (wg_t 702 rfl rfl)⟩, (wg_t 703 rfl rfl), 9, _, rfl, rfl, (wg_t 704 rfl rfl)⟩
theorem lq_AB_40 : wo_MV "java/lang/AbstractStringBuilder" 40 10 yq_St_coder prog_22_method_152_code 1 ((Option.some Jvm.ClassFile.FieldType.byte)) 0 := ⟨⟨(wg_t 9 rfl rfl), (wg_t 545 rfl rfl), ⟨by decide +kernel, by decide +kernel, by decide +kernel⟩, (wg_t 701 rfl rfl)⟩, (wg_t 543 rfl rfl), 9, _, rfl, rfl, (wg_t 544 rfl rfl)⟩
theorem lq_AB_83 : wo_MV "java/lang/AbstractStringBuilder" 83 5 yq_AB_isLatin1 prog_16_method_68_code 1 ((Option.some Jvm.ClassFile.FieldType.boolean)) 0 := ⟨⟨(wg_t 7 rfl rfl), (wg_t 384 rfl rfl), ⟨by decide +kernel, by decide +kernel, by decide +kernel⟩, (wg_t 380 rfl rfl)⟩, (wg_t 381 rfl rfl), 4, _, rfl, rfl, (wg_t 383 rfl rfl)⟩
theorem lq_St_1 : Cond.methodLink "java/lang/String" 1 Lib.objectInit ∈ vw_WG := (wg_t 445 rfl rfl)
theorem lq_St_1047 : wo_MV "java/lang/String" 1047 5 yq_AB_isLatin1 prog_16_method_68_code 1 ((Option.some Jvm.ClassFile.FieldType.boolean)) 0 := ⟨⟨(wg_t 7 rfl rfl), (wg_t 384 rfl rfl), ⟨by decide +kernel, by decide +kernel, by decide +kernel⟩, (wg_t 459 rfl rfl)⟩, (wg_t 381 rfl rfl), 4, _, rfl, rfl, (wg_t 383 rfl rfl)⟩
theorem lq_St_1059 : wo_MS "java/lang/String" 1059 yq_Pc_checkIndex prog_37_method_11_code 3 ((Option.some Jvm.ClassFile.FieldType.int)) 3 := ⟨⟨(wg_t 21 rfl rfl), (wg_t 432 rfl rfl), ⟨by decide +kernel, by decide +kernel, by decide +kernel⟩, (wg_t 430 rfl rfl)⟩, (wg_t 431 rfl rfl)⟩
theorem lq_St_106 : wo_MS "java/lang/String" 106 yq_La_inflate prog_24_method_50_code 5 ((Option.none : Option Jvm.ClassFile.FieldType)) 5 := ⟨⟨(wg_t 20 rfl rfl), (wg_t 394 rfl rfl), ⟨by decide +kernel, by decide +kernel, by decide +kernel⟩, (wg_t 707 rfl rfl)⟩, (wg_t 393 rfl rfl)⟩
theorem lq_St_1062 : wo_MS "java/lang/String" 1062 yq_Pc_checkFromToIndex prog_37_method_12_code 4 ((Option.some Jvm.ClassFile.FieldType.int)) 4 := ⟨⟨(wg_t 21 rfl rfl), (wg_t 574 rfl rfl), ⟨by decide +kernel, by decide +kernel, by decide +kernel⟩, (wg_t 572 rfl rfl)⟩, (wg_t 573 rfl rfl)⟩
theorem lq_St_212 : Cond.methodLink "java/lang/String" 212 arraycopyName ∈ vw_WG := (wg_t 706 rfl rfl)
theorem lq_St_335 : wo_MV "java/lang/String" 335 10 yq_St_coder prog_22_method_152_code 1 ((Option.some Jvm.ClassFile.FieldType.byte)) 0 := ⟨⟨(wg_t 9 rfl rfl), (wg_t 545 rfl rfl), ⟨by decide +kernel, by decide +kernel, by decide +kernel⟩, (wg_t 542 rfl rfl)⟩, (wg_t 543 rfl rfl), 9, _, rfl, rfl, (wg_t 544 rfl rfl)⟩
theorem lq_St_489 : wo_MI "java/lang/String" 489 yq_St_init_OO prog_22_method_150_code 5 2 := ⟨⟨(wg_t 9 rfl rfl), (wg_t 444 rfl rfl), ⟨by decide +kernel, by decide +kernel, by decide +kernel⟩, (wg_t 442 rfl rfl)⟩, rfl, (wg_t 443 rfl rfl)⟩
theorem lq_St_492 : wo_MV "java/lang/String" 492 10 yq_St_isLatin1 prog_22_method_154_code 1 ((Option.some Jvm.ClassFile.FieldType.boolean)) 0 := ⟨⟨(wg_t 9 rfl rfl), (wg_t 537 rfl rfl), ⟨by decide +kernel, by decide +kernel, by decide +kernel⟩, (wg_t 534 rfl rfl)⟩, (wg_t 535 rfl rfl), 9, _, rfl, rfl, (wg_t 536 rfl rfl)⟩
theorem lq_St_495 : wo_MS "java/lang/String" 495 yq_La_charAt prog_24_method_2_code 2 ((Option.some Jvm.ClassFile.FieldType.char)) 2 := ⟨⟨(wg_t 20 rfl rfl), (wg_t 645 rfl rfl), ⟨by decide +kernel, by decide +kernel, by decide +kernel⟩, (wg_t 643 rfl rfl)⟩, (wg_t 644 rfl rfl)⟩
theorem lq_St_505 : wo_MV "java/lang/String" 505 10 yq_St_length prog_22_method_54_code 1 ((Option.some Jvm.ClassFile.FieldType.int)) 0 := ⟨⟨(wg_t 9 rfl rfl), (wg_t 541 rfl rfl), ⟨by decide +kernel, by decide +kernel, by decide +kernel⟩, (wg_t 538 rfl rfl)⟩, (wg_t 539 rfl rfl), 9, _, rfl, rfl, (wg_t 540 rfl rfl)⟩
theorem lq_St_521 : wo_MS "java/lang/String" 521 yq_St_checkBoundsBeginEnd prog_22_method_158_code 3 ((Option.none : Option Jvm.ClassFile.FieldType)) 3 := ⟨⟨(wg_t 9 rfl rfl), (wg_t 571 rfl rfl), ⟨by decide +kernel, by decide +kernel, by decide +kernel⟩, (wg_t 596 rfl rfl)⟩, (wg_t 570 rfl rfl)⟩
theorem lq_St_54 : wo_MS "java/lang/String" 54 yq_Ar_copyOfRange prog_30_method_132_code 3 ((Option.some (Jvm.ClassFile.FieldType.array Jvm.ClassFile.FieldType.byte))) 3 := ⟨⟨(wg_t 18 rfl rfl), (wg_t 462 rfl rfl), ⟨by decide +kernel, by decide +kernel, by decide +kernel⟩, (wg_t 460 rfl rfl)⟩, (wg_t 461 rfl rfl)⟩
theorem lq_St_541 : wo_MS "java/lang/String" 541 yq_La_equals prog_24_method_13_code 3 ((Option.some Jvm.ClassFile.FieldType.boolean)) 2 := ⟨⟨(wg_t 20 rfl rfl), (wg_t 626 rfl rfl), ⟨by decide +kernel, by decide +kernel, by decide +kernel⟩, (wg_t 624 rfl rfl)⟩, (wg_t 625 rfl rfl)⟩
theorem lq_St_549 : wo_MU "java/lang/String" 549 5 yq_SB_length prog_23_method_93_code 1 ((Option.some Jvm.ClassFile.FieldType.int)) 0 := ⟨(wg_t 8 rfl rfl), (wg_t 456 rfl rfl), (wg_t 455 rfl rfl), ⟨"java/lang/AbstractStringBuilder", "length", "()I"⟩, _, _, _, 4, _, ⟨by decide +kernel, by decide +kernel, by decide +kernel⟩, (wg_t 451 rfl rfl), (wg_t 453 rfl rfl), (wg_t 452 rfl rfl), (wg_t 458 rfl rfl), rfl, rfl, (wg_t 454 rfl rfl)⟩
theorem lq_St_552 : wo_MV "java/lang/String" 552 5 yq_AB_getValue prog_16_method_64_code 1 ((Option.some (Jvm.ClassFile.FieldType.array Jvm.ClassFile.FieldType.byte))) 0 := ⟨⟨(wg_t 7 rfl rfl), (wg_t 450 rfl rfl), ⟨by decide +kernel, by decide +kernel, by decide +kernel⟩, (wg_t 446 rfl rfl)⟩, (wg_t 447 rfl rfl), 4, _, rfl, rfl, (wg_t 449 rfl rfl)⟩
theorem lq_St_633 : wo_MV "java/lang/String" 633 10 yq_St_indexOf_II prog_22_method_80_code 3 ((Option.some Jvm.ClassFile.FieldType.int)) 2 := ⟨⟨(wg_t 9 rfl rfl), (wg_t 533 rfl rfl), ⟨by decide +kernel, by decide +kernel, by decide +kernel⟩, (wg_t 530 rfl rfl)⟩, (wg_t 531 rfl rfl), 9, _, rfl, rfl, (wg_t 532 rfl rfl)⟩
theorem lq_St_637 : wo_MS "java/lang/String" 637 yq_La_indexOf prog_24_method_22_code 4 ((Option.some Jvm.ClassFile.FieldType.int)) 4 := ⟨⟨(wg_t 20 rfl rfl), (wg_t 548 rfl rfl), ⟨by decide +kernel, by decide +kernel, by decide +kernel⟩, (wg_t 546 rfl rfl)⟩, (wg_t 547 rfl rfl)⟩
theorem lq_St_681 : wo_MV "java/lang/String" 681 10 yq_St_substring_II prog_22_method_92_code 5 ((Option.some (Jvm.ClassFile.FieldType.object "java/lang/String"))) 2 := ⟨⟨(wg_t 9 rfl rfl), (wg_t 595 rfl rfl), ⟨by decide +kernel, by decide +kernel, by decide +kernel⟩, (wg_t 634 rfl rfl)⟩, (wg_t 593 rfl rfl), 9, _, rfl, rfl, (wg_t 594 rfl rfl)⟩
theorem lq_St_685 : wo_MS "java/lang/String" 685 yq_La_newString prog_24_method_47_code 3 ((Option.some (Jvm.ClassFile.FieldType.object "java/lang/String"))) 3 := ⟨⟨(wg_t 20 rfl rfl), (wg_t 599 rfl rfl), ⟨by decide +kernel, by decide +kernel, by decide +kernel⟩, (wg_t 597 rfl rfl)⟩, (wg_t 598 rfl rfl)⟩
theorem lq_SB_1 : wo_MI "java/lang/StringBuilder" 1 yq_AB_init prog_16_method_2_code 2 1 := ⟨⟨(wg_t 7 rfl rfl), (wg_t 93 rfl rfl), ⟨by decide +kernel, by decide +kernel, by decide +kernel⟩, (wg_t 91 rfl rfl)⟩, rfl, (wg_t 92 rfl rfl)⟩
theorem lq_SB_137 : wo_MI "java/lang/StringBuilder" 137 yq_St_init_O prog_22_method_53_code 2 1 := ⟨⟨(wg_t 9 rfl rfl), (wg_t 441 rfl rfl), ⟨by decide +kernel, by decide +kernel, by decide +kernel⟩, (wg_t 439 rfl rfl)⟩, rfl, (wg_t 440 rfl rfl)⟩
theorem lq_SB_29 : wo_MP "java/lang/StringBuilder" 29 5 yq_AB_append_S prog_16_method_22_code 3 ((Option.some (Jvm.ClassFile.FieldType.object "java/lang/AbstractStringBuilder"))) 1 := ⟨⟨(wg_t 7 rfl rfl), (wg_t 684 rfl rfl), ⟨by decide +kernel, by decide +kernel, by decide +kernel⟩, (wg_t 682 rfl rfl)⟩, (wg_t 683 rfl rfl), by decide +kernel, (wg_t 1762 rfl rfl), (wg_t 117 rfl rfl), 4, _, rfl, rfl⟩
theorem lq_SB_329 : wo_MP "java/lang/StringBuilder" 329 5 yq_AB_charAt prog_16_method_14_code 5 ((Option.some Jvm.ClassFile.FieldType.char)) 1 := ⟨⟨(wg_t 7 rfl rfl), (wg_t 718 rfl rfl), ⟨by decide +kernel, by decide +kernel, by decide +kernel⟩, (wg_t 716 rfl rfl)⟩, (wg_t 717 rfl rfl), by decide +kernel, (wg_t 1767 rfl rfl), (wg_t 117 rfl rfl), 4, _, rfl, rfl⟩
theorem lq_SB_333 : wo_MP "java/lang/StringBuilder" 333 5 yq_AB_setLength prog_16_method_13_code 2 ((Option.none : Option Jvm.ClassFile.FieldType)) 1 := ⟨⟨(wg_t 7 rfl rfl), (wg_t 500 rfl rfl), ⟨by decide +kernel, by decide +kernel, by decide +kernel⟩, (wg_t 498 rfl rfl)⟩, (wg_t 499 rfl rfl), by decide +kernel, (wg_t 1761 rfl rfl), (wg_t 117 rfl rfl), 4, _, rfl, rfl⟩
theorem lq_SB_343 : wo_MP "java/lang/StringBuilder" 343 5 yq_AB_length prog_16_method_6_code 1 ((Option.some Jvm.ClassFile.FieldType.int)) 0 := ⟨⟨(wg_t 7 rfl rfl), (wg_t 458 rfl rfl), ⟨by decide +kernel, by decide +kernel, by decide +kernel⟩, (wg_t 457 rfl rfl)⟩, (wg_t 452 rfl rfl), by decide +kernel, (wg_t 453 rfl rfl), (wg_t 117 rfl rfl), 4, _, rfl, rfl⟩
theorem lq_SB_50 : wo_MP "java/lang/StringBuilder" 50 5 yq_AB_append_C prog_16_method_31_code 2 ((Option.some (Jvm.ClassFile.FieldType.object "java/lang/AbstractStringBuilder"))) 1 := ⟨⟨(wg_t 7 rfl rfl), (wg_t 348 rfl rfl), ⟨by decide +kernel, by decide +kernel, by decide +kernel⟩, (wg_t 346 rfl rfl)⟩, (wg_t 347 rfl rfl), by decide +kernel, (wg_t 1757 rfl rfl), (wg_t 117 rfl rfl), 4, _, rfl, rfl⟩
theorem lq_SB_53 : wo_MP "java/lang/StringBuilder" 53 5 yq_AB_append_I prog_16_method_32_code 4 ((Option.some (Jvm.ClassFile.FieldType.object "java/lang/AbstractStringBuilder"))) 1 := ⟨⟨(wg_t 7 rfl rfl), (wg_t 781 rfl rfl), ⟨by decide +kernel, by decide +kernel, by decide +kernel⟩, (wg_t 779 rfl rfl)⟩, (wg_t 780 rfl rfl), by decide +kernel, (wg_t 1768 rfl rfl), (wg_t 117 rfl rfl), 4, _, rfl, rfl⟩
theorem lq_La_112 : wo_MI "java/lang/StringLatin1" 112 yq_St_init_aBB prog_22_method_151_code 3 2 := ⟨⟨(wg_t 9 rfl rfl), (wg_t 605 rfl rfl), ⟨by decide +kernel, by decide +kernel, by decide +kernel⟩, (wg_t 603 rfl rfl)⟩, rfl, (wg_t 604 rfl rfl)⟩
theorem lq_La_232 : wo_MS "java/lang/StringLatin1" 232 yq_Ar_copyOfRange prog_30_method_132_code 3 ((Option.some (Jvm.ClassFile.FieldType.array Jvm.ClassFile.FieldType.byte))) 3 := ⟨⟨(wg_t 18 rfl rfl), (wg_t 462 rfl rfl), ⟨by decide +kernel, by decide +kernel, by decide +kernel⟩, (wg_t 602 rfl rfl)⟩, (wg_t 461 rfl rfl)⟩
theorem lq_La_236 : wo_MS "java/lang/StringLatin1" 236 yq_Ar_fill prog_30_method_110_code 5 ((Option.none : Option Jvm.ClassFile.FieldType)) 4 := ⟨⟨(wg_t 18 rfl rfl), (wg_t 506 rfl rfl), ⟨by decide +kernel, by decide +kernel, by decide +kernel⟩, (wg_t 504 rfl rfl)⟩, (wg_t 505 rfl rfl)⟩
theorem lq_La_38 : Cond.methodLink "java/lang/StringLatin1" 38 Lib.Math.min.name ∈ vw_WG := (wg_t 553 rfl rfl)
theorem lq_La_88 : wo_MS "java/lang/StringLatin1" 88 yq_La_canEncode_I prog_24_method_4_code 1 ((Option.some Jvm.ClassFile.FieldType.boolean)) 1 := ⟨⟨(wg_t 20 rfl rfl), (wg_t 551 rfl rfl), ⟨by decide +kernel, by decide +kernel, by decide +kernel⟩, (wg_t 549 rfl rfl)⟩, (wg_t 550 rfl rfl)⟩
theorem lq_La_9 : wo_MS "java/lang/StringLatin1" 9 yq_St_checkIndex prog_22_method_155_code 2 ((Option.none : Option Jvm.ClassFile.FieldType)) 2 := ⟨⟨(wg_t 9 rfl rfl), (wg_t 429 rfl rfl), ⟨by decide +kernel, by decide +kernel, by decide +kernel⟩, (wg_t 646 rfl rfl)⟩, (wg_t 428 rfl rfl)⟩
theorem lq_La_92 : Cond.methodLink "java/lang/StringLatin1" 92 Lib.Math.max.name ∈ vw_WG := (wg_t 552 rfl rfl)
theorem lq_La_95 : wo_MS "java/lang/StringLatin1" 95 yq_La_indexOfChar prog_24_method_23_code 6 ((Option.some Jvm.ClassFile.FieldType.int)) 4 := ⟨⟨(wg_t 20 rfl rfl), (wg_t 556 rfl rfl), ⟨by decide +kernel, by decide +kernel, by decide +kernel⟩, (wg_t 554 rfl rfl)⟩, (wg_t 555 rfl rfl)⟩
theorem lq_Ac_1 : Cond.methodLink "java/util/AbstractCollection" 1 Lib.objectInit ∈ vw_WG := (wg_t 57 rfl rfl)
theorem lq_At_1 : wo_MI "java/util/AbstractList" 1 yq_Ac_init prog_27_method_1_code 1 0 := ⟨⟨(wg_t 3 rfl rfl), (wg_t 56 rfl rfl), ⟨by decide +kernel, by decide +kernel, by decide +kernel⟩, (wg_t 54 rfl rfl)⟩, rfl, (wg_t 55 rfl rfl)⟩
theorem lq_Al_1 : wo_MI "java/util/ArrayList" 1 yq_At_init prog_28_method_1_code 1 0 := ⟨⟨(wg_t 4 rfl rfl), (wg_t 53 rfl rfl), ⟨by decide +kernel, by decide +kernel, by decide +kernel⟩, (wg_t 51 rfl rfl)⟩, rfl, (wg_t 52 rfl rfl)⟩
theorem lq_Al_112 : Cond.methodLink "java/util/ArrayList" 112 arraycopyName ∈ vw_WG := (wg_t 1011 rfl rfl)
theorem lq_Al_118 : wo_MS "java/util/ArrayList" 118 yq_Ob_checkIndex prog_33_method_17_code 2 ((Option.some Jvm.ClassFile.FieldType.int)) 2 := ⟨⟨(wg_t 27 rfl rfl), (wg_t 867 rfl rfl), ⟨by decide +kernel, by decide +kernel, by decide +kernel⟩, (wg_t 865 rfl rfl)⟩, (wg_t 866 rfl rfl)⟩
theorem lq_Al_123 : wo_MV "java/util/ArrayList" 123 3 yq_Al_elementData prog_29_method_18_code 2 ((Option.some (Jvm.ClassFile.FieldType.object "java/lang/Object"))) 1 := ⟨⟨(wg_t 5 rfl rfl), (wg_t 872 rfl rfl), ⟨by decide +kernel, by decide +kernel, by decide +kernel⟩, (wg_t 869 rfl rfl)⟩, (wg_t 870 rfl rfl), 2, _, rfl, rfl, (wg_t 871 rfl rfl)⟩
theorem lq_Al_129 : wo_MV "java/util/ArrayList" 129 3 yq_Al_grow_ prog_29_method_7_code 1 ((Option.some (Jvm.ClassFile.FieldType.array (Jvm.ClassFile.FieldType.object "java/lang/Object")))) 0 := ⟨⟨(wg_t 5 rfl rfl), (wg_t 913 rfl rfl), ⟨by decide +kernel, by decide +kernel, by decide +kernel⟩, (wg_t 910 rfl rfl)⟩, (wg_t 912 rfl rfl), 2, _, rfl, rfl, (wg_p 13 rfl rfl)⟩
theorem lq_Al_131 : wo_MV "java/util/ArrayList" 131 3 yq_Al_add_OaOI prog_29_method_24_code 4 ((Option.none : Option Jvm.ClassFile.FieldType)) 3 := ⟨⟨(wg_t 5 rfl rfl), (wg_t 909 rfl rfl), ⟨by decide +kernel, by decide +kernel, by decide +kernel⟩, (wg_t 906 rfl rfl)⟩, (wg_t 908 rfl rfl), 2, _, rfl, rfl, (wg_p 12 rfl rfl)⟩
theorem lq_Al_144 : wo_MV "java/util/ArrayList" 144 3 yq_Al_fastRemove prog_29_method_39_code 4 ((Option.none : Option Jvm.ClassFile.FieldType)) 2 := ⟨⟨(wg_t 5 rfl rfl), (wg_t 1010 rfl rfl), ⟨by decide +kernel, by decide +kernel, by decide +kernel⟩, (wg_t 1007 rfl rfl)⟩, (wg_t 1009 rfl rfl), 2, _, rfl, rfl, (wg_p 17 rfl rfl)⟩
theorem lq_Al_66 : wo_MS "java/util/ArrayList" 66 yq_Ar_copyOf_aOI prog_30_method_119_code 2 ((Option.some (Jvm.ClassFile.FieldType.array (Jvm.ClassFile.FieldType.object "java/lang/Object")))) 2 := ⟨⟨(wg_t 18 rfl rfl), (wg_t 921 rfl rfl), ⟨by decide +kernel, by decide +kernel, by decide +kernel⟩, (wg_t 919 rfl rfl)⟩, (wg_t 920 rfl rfl)⟩
theorem lq_Al_69 : wo_MV "java/util/ArrayList" 69 3 yq_Al_grow_I prog_29_method_6_code 4 ((Option.some (Jvm.ClassFile.FieldType.array (Jvm.ClassFile.FieldType.object "java/lang/Object")))) 1 := ⟨⟨(wg_t 5 rfl rfl), (wg_t 917 rfl rfl), ⟨by decide +kernel, by decide +kernel, by decide +kernel⟩, (wg_t 914 rfl rfl)⟩, (wg_t 916 rfl rfl), 2, _, rfl, rfl, (wg_p 14 rfl rfl)⟩
theorem lq_Al_73 : wo_MS "java/util/ArrayList" 73 yq_As_newLength prog_36_method_27_code 4 ((Option.some Jvm.ClassFile.FieldType.int)) 3 := ⟨⟨(wg_t 17 rfl rfl), (wg_t 359 rfl rfl), ⟨by decide +kernel, by decide +kernel, by decide +kernel⟩, (wg_t 918 rfl rfl)⟩, (wg_t 358 rfl rfl)⟩
theorem lq_Al_79 : Cond.methodLink "java/util/ArrayList" 79 Lib.Math.max.name ∈ vw_WG := (wg_t 947 rfl rfl)
theorem lq_Ar_13 : wo_MS "java/util/Arrays" 13 yq_Ar_rangeCheck prog_30_method_30_code 3 ((Option.none : Option Jvm.ClassFile.FieldType)) 3 := ⟨⟨(wg_t 18 rfl rfl), (wg_t 509 rfl rfl), ⟨by decide +kernel, by decide +kernel, by decide +kernel⟩, (wg_t 507 rfl rfl)⟩, (wg_t 508 rfl rfl)⟩
theorem lq_Ar_150 : Cond.methodLink "java/util/Arrays" 150 arraycopyName ∈ vw_WG := (wg_t 377 rfl rfl)
theorem lq_Ar_300 : wo_MS "java/util/Arrays" 300 yq_Ar_copyOf_aOIO prog_30_method_120_code 4 ((Option.some (Jvm.ClassFile.FieldType.array (Jvm.ClassFile.FieldType.object "java/lang/Object")))) 3 := ⟨⟨(wg_t 18 rfl rfl), (wg_t 943 rfl rfl), ⟨by decide +kernel, by decide +kernel, by decide +kernel⟩, (wg_t 941 rfl rfl)⟩, (wg_t 942 rfl rfl)⟩
theorem lq_Ar_304 : Cond.methodLink "java/util/Arrays" 304 Lib.Math.min.name ∈ vw_WG := (wg_t 376 rfl rfl)
theorem lq_Ar_310 : wo_CL "java/util/Arrays" 310 := ⟨(wg_t 369 rfl rfl), (wg_t 370 rfl rfl), (wg_t 371 rfl rfl), (wg_t 372 rfl rfl), (wg_t 373 rfl rfl), by decide⟩
theorem lq_Ar_339 : wo_MS "java/util/Arrays" 339 yq_Ar_copyOfRangeByte prog_30_method_133_code 5 ((Option.some (Jvm.ClassFile.FieldType.array Jvm.ClassFile.FieldType.byte))) 3 := ⟨⟨(wg_t 18 rfl rfl), (wg_t 465 rfl rfl), ⟨by decide +kernel, by decide +kernel, by decide +kernel⟩, (wg_t 463 rfl rfl)⟩, (wg_t 464 rfl rfl)⟩
theorem lq_Ar_343 : wo_MS "java/util/Arrays" 343 yq_Ar_checkLength prog_30_method_131_code 2 ((Option.none : Option Jvm.ClassFile.FieldType)) 2 := ⟨⟨(wg_t 18 rfl rfl), (wg_t 468 rfl rfl), ⟨by decide +kernel, by decide +kernel, by decide +kernel⟩, (wg_t 466 rfl rfl)⟩, (wg_t 467 rfl rfl)⟩
theorem lq_Ar_86 : Cond.methodLink "java/util/Arrays" 86 ⟨"java/lang/Object", "getClass", "()Ljava/lang/Class;"⟩ ∈ vw_WG := (wg_t 922 rfl rfl)
theorem lq_Ob_105 : wo_MS "java/util/Objects" 105 yq_Pc_checkIndex prog_37_method_11_code 3 ((Option.some Jvm.ClassFile.FieldType.int)) 3 := ⟨⟨(wg_t 21 rfl rfl), (wg_t 432 rfl rfl), ⟨by decide +kernel, by decide +kernel, by decide +kernel⟩, (wg_t 868 rfl rfl)⟩, (wg_t 431 rfl rfl)⟩
theorem lq_As_194 : Cond.methodLink "jdk/internal/util/ArraysSupport" 194 Lib.Math.max.name ∈ vw_WG := (wg_t 360 rfl rfl)
theorem nq_Cn_7 : wo_FN "EdgeCache$Connection" 7 8 9 := ⟨7, _, rfl, rfl, rfl, (wg_t 167 rfl rfl), (wg_t 168 rfl rfl), (wg_t 14 rfl rfl)⟩
theorem nq_Og_55 : wo_FN "EdgeCache$Origin" 55 12 2 := ⟨11, _, rfl, rfl, rfl, (wg_t 873 rfl rfl), (wg_t 887 rfl rfl), (wg_t 26 rfl rfl)⟩
theorem nq_Og_9 : wo_FN "EdgeCache$Origin" 9 3 3 := ⟨2, _, rfl, rfl, rfl, (wg_t 46 rfl rfl), (wg_t 47 rfl rfl), (wg_t 5 rfl rfl)⟩
theorem nq_Rd_24 : wo_FN "EdgeCache$Reader" 24 9 12 := ⟨8, _, rfl, rfl, rfl, (wg_t 175 rfl rfl), (wg_t 176 rfl rfl), (wg_t 15 rfl rfl)⟩
theorem nq_Rd_9 : wo_FN "EdgeCache$Reader" 9 5 4 := ⟨4, _, rfl, rfl, rfl, (wg_t 173 rfl rfl), (wg_t 87 rfl rfl), (wg_t 8 rfl rfl)⟩
theorem nq_Rs_11 : wo_FN "EdgeCache$Resource" 11 13 5 := ⟨12, _, rfl, rfl, rfl, (wg_t 892 rfl rfl), (wg_t 954 rfl rfl), (wg_t 28 rfl rfl)⟩
theorem nq_Sh_9 : wo_FN "EdgeCache$Sheet" 9 5 4 := ⟨4, _, rfl, rfl, rfl, (wg_t 86 rfl rfl), (wg_t 87 rfl rfl), (wg_t 8 rfl rfl)⟩
theorem nq_So_7 : wo_FN "EdgeCache$Store" 7 3 3 := ⟨2, _, rfl, rfl, rfl, (wg_t 149 rfl rfl), (wg_t 47 rfl rfl), (wg_t 5 rfl rfl)⟩
theorem nq_EC_15 : wo_FN "EdgeCache" 15 2 2 := ⟨1, _, rfl, rfl, rfl, (wg_t 40 rfl rfl), (wg_t 41 rfl rfl), (wg_t 2 rfl rfl)⟩
theorem nq_EC_203 : wo_FN "EdgeCache" 203 14 5 := ⟨13, _, rfl, rfl, rfl, (wg_t 1223 rfl rfl), (wg_t 1112 rfl rfl), (wg_t 29 rfl rfl)⟩
theorem nq_EC_22 : wo_FN "EdgeCache" 22 4 4 := ⟨3, _, rfl, rfl, rfl, (wg_t 80 rfl rfl), (wg_t 81 rfl rfl), (wg_t 6 rfl rfl)⟩
theorem nq_EC_29 : wo_FN "EdgeCache" 29 11 7 := ⟨10, _, rfl, rfl, rfl, (wg_t 133 rfl rfl), (wg_t 806 rfl rfl), (wg_t 25 rfl rfl)⟩
theorem nq_EC_35 : wo_FN "EdgeCache" 35 3 3 := ⟨2, _, rfl, rfl, rfl, (wg_t 135 rfl rfl), (wg_t 47 rfl rfl), (wg_t 5 rfl rfl)⟩
theorem nq_EC_42 : wo_FN "EdgeCache" 42 6 3 := ⟨5, _, rfl, rfl, rfl, (wg_t 137 rfl rfl), (wg_t 138 rfl rfl), (wg_t 11 rfl rfl)⟩
theorem nq_EC_9 : wo_FN "EdgeCache" 9 7 7 := ⟨6, _, rfl, rfl, rfl, (wg_t 38 rfl rfl), (wg_t 162 rfl rfl), (wg_t 13 rfl rfl)⟩
theorem nq_SB_18 : wo_FN "java/lang/StringBuilder" 18 10 4 := ⟨9, _, rfl, rfl, rfl, (wg_t 437 rfl rfl), (wg_t 438 rfl rfl), (wg_t 9 rfl rfl)⟩
theorem nq_La_1 : wo_FN "java/lang/StringLatin1" 1 10 4 := ⟨9, _, rfl, rfl, rfl, (wg_t 601 rfl rfl), (wg_t 438 rfl rfl), (wg_t 9 rfl rfl)⟩
theorem sq_AB_18 : wo_ZI "java/lang/AbstractStringBuilder" 18 (1) := ⟨_, _, _, "java/lang/String", List.mem_of_getElem? (i := 0) rfl, (wg_t 95 rfl rfl), Or.inl rfl⟩
theorem sq_It_83 : wo_ZA "java/lang/Integer" 83 1 := ⟨_, _, _, "java/lang/Integer", List.mem_of_getElem? (i := 1) rfl, (wg_t 788 rfl rfl), Or.inl rfl⟩
theorem sq_It_87 : wo_ZA "java/lang/Integer" 87 2 := ⟨_, _, _, "java/lang/Integer", List.mem_of_getElem? (i := 2) rfl, (wg_t 790 rfl rfl), Or.inl rfl⟩
theorem sq_St_1053 : wo_ZR "java/lang/String" 1053 := ⟨_, _, _, "jdk/internal/util/Preconditions", List.mem_of_getElem? (i := 0) rfl, (wg_t 407 rfl rfl), Or.inl rfl⟩
theorem sq_St_38 : wo_ZI "java/lang/String" 38 (1) := ⟨_, _, _, "java/lang/String", List.mem_of_getElem? (i := 0) rfl, (wg_t 469 rfl rfl), Or.inl rfl⟩
theorem sq_Al_39 : wo_ZA "java/util/ArrayList" 39 0 := ⟨_, _, _, "java/util/ArrayList", List.mem_of_getElem? (i := 0) rfl, (wg_t 58 rfl rfl), Or.inl rfl⟩
