def jxcn (own : Nat) : String := (["CardClub$Cards", "CardClub$Drawer", "CardClub$Matching", "CardClub$Members", "CardClub$Offers", "CardClub$RingSearch", "CardClub$RuleBook", "CardClub$Tally", "CardClub$Tape", "CardClub$Tariffs", "CardClub$Wishes", "CardClub", "CardClubModel", "java/lang/Integer", "java/lang/Math", "java/lang/String", "java/lang/StringLatin1", "java/lang/StringUTF16", "jdk/internal/util/Preconditions", "CardClubLaw"] : List String).getD own ""
def jxnmT : List MethodName := [⟨"CardClub$Cards", "<init>", "(LCardClub$Members;)V"⟩,
  ⟨"CardClub$Cards", "size", "()I"⟩,
  ⟨"CardClub$Cards", "tellings", "()I"⟩,
  ⟨"CardClub$Cards", "has", "(I)Z"⟩,
  ⟨"CardClub$Cards", "hasRoom", "(I)Z"⟩,
  ⟨"CardClub$Cards", "add", "(IIIII)I"⟩,
  ⟨"CardClub$Cards", "fromOf", "(I)I"⟩,
  ⟨"CardClub$Cards", "toOf", "(I)I"⟩,
  ⟨"CardClub$Cards", "sentOnOf", "(I)I"⟩,
  ⟨"CardClub$Cards", "boundOf", "(I)I"⟩,
  ⟨"CardClub$Cards", "ringOf", "(I)I"⟩,
  ⟨"CardClub$Cards", "cancelledOnOf", "(I)I"⟩,
  ⟨"CardClub$Cards", "arrivedOnOf", "(I)I"⟩,
  ⟨"CardClub$Cards", "cancel", "(II)V"⟩,
  ⟨"CardClub$Cards", "tellArrival", "(III)Z"⟩,
  ⟨"CardClub$Cards", "takeBack", "(II)Z"⟩,
  ⟨"CardClub$Cards", "tell", "(III)Z"⟩,
  ⟨"CardClub$Cards", "stateNow", "(II)I"⟩,
  ⟨"CardClub$Cards", "stateAsKnown", "(III)I"⟩,
  ⟨"CardClub$Cards", "stateOn", "(IIII)I"⟩,
  ⟨"CardClub$Cards", "reachedBy", "(I)J"⟩,
  ⟨"CardClub$Cards", "landsArrivedTo", "(II)I"⟩,
  ⟨"CardClub$Cards", "boundBetween", "(III)I"⟩,
  ⟨"CardClub$Cards", "measure", "(II)V"⟩,
  ⟨"CardClub$Cards", "addMeasured", "(I)V"⟩,
  ⟨"CardClub$Cards", "measuredArrivals", "()I"⟩,
  ⟨"CardClub$Cards", "measuredLeast", "()I"⟩,
  ⟨"CardClub$Cards", "measuredGreatest", "()I"⟩,
  ⟨"CardClub$Drawer", "<init>", "()V"⟩,
  ⟨"CardClub$Drawer", "put", "(III)Z"⟩,
  ⟨"CardClub$Drawer", "manyOf", "(I)I"⟩,
  ⟨"CardClub$Drawer", "valueOf", "(I)I"⟩,
  ⟨"CardClub$Drawer", "wentOf", "(I)I"⟩,
  ⟨"CardClub$Drawer", "payAtLeast", "(I)I"⟩,
  ⟨"CardClub$Drawer", "dearestStamp", "()I"⟩,
  ⟨"CardClub$Drawer", "findBestWays", "(I)V"⟩,
  ⟨"CardClub$Drawer", "tryKind", "(II)V"⟩,
  ⟨"CardClub$Drawer", "tryBundle", "(III)V"⟩,
  ⟨"CardClub$Drawer", "takeOut", "(J)V"⟩,
  ⟨"CardClub$Drawer", "shiftOf", "(I)I"⟩,
  ⟨"CardClub$Matching", "<init>", "()V"⟩,
  ⟨"CardClub$Matching", "begin", "(I)V"⟩,
  ⟨"CardClub$Matching", "forbidAll", "()V"⟩,
  ⟨"CardClub$Matching", "allow", "(III)V"⟩,
  ⟨"CardClub$Matching", "tryReceiver", "(I)V"⟩,
  ⟨"CardClub$Matching", "tryPair", "(III)V"⟩,
  ⟨"CardClub$Matching", "finish", "()V"⟩,
  ⟨"CardClub$Matching", "receiverOf", "(I)I"⟩,
  ⟨"CardClub$Matching", "shiftOf", "(I)I"⟩,
  ⟨"CardClub$Members", "<init>", "()V"⟩,
  ⟨"CardClub$Members", "size", "()I"⟩,
  ⟨"CardClub$Members", "has", "(I)Z"⟩,
  ⟨"CardClub$Members", "isThere", "(I)Z"⟩,
  ⟨"CardClub$Members", "howManyThere", "()I"⟩,
  ⟨"CardClub$Members", "add", "(IIII)I"⟩,
  ⟨"CardClub$Members", "goAway", "(I)V"⟩,
  ⟨"CardClub$Members", "addCredit", "(I)V"⟩,
  ⟨"CardClub$Members", "landOf", "(I)I"⟩,
  ⟨"CardClub$Members", "tonguesOf", "(I)I"⟩,
  ⟨"CardClub$Members", "cameOnOf", "(I)I"⟩,
  ⟨"CardClub$Members", "creditOf", "(I)I"⟩,
  ⟨"CardClub$Members", "areKin", "(II)Z"⟩,
  ⟨"CardClub$Offers", "<init>", "()V"⟩,
  ⟨"CardClub$Offers", "size", "()I"⟩,
  ⟨"CardClub$Offers", "ringsClosed", "()I"⟩,
  ⟨"CardClub$Offers", "has", "(I)Z"⟩,
  ⟨"CardClub$Offers", "add", "(III)I"⟩,
  ⟨"CardClub$Offers", "addRing", "()I"⟩,
  ⟨"CardClub$Offers", "joinRing", "(III)V"⟩,
  ⟨"CardClub$Offers", "takeAway", "(I)V"⟩,
  ⟨"CardClub$Offers", "isOpen", "(I)Z"⟩,
  ⟨"CardClub$Offers", "isInRing", "(I)Z"⟩,
  ⟨"CardClub$Offers", "offerInRing", "(II)I"⟩,
  ⟨"CardClub$Offers", "memberOf", "(I)I"⟩,
  ⟨"CardClub$Offers", "kindOf", "(I)I"⟩,
  ⟨"CardClub$Offers", "wantsOf", "(I)I"⟩,
  ⟨"CardClub$Offers", "conditionOf", "(I)I"⟩,
  ⟨"CardClub$Offers", "ringOf", "(I)I"⟩,
  ⟨"CardClub$Offers", "cardOf", "(I)I"⟩,
  ⟨"CardClub$RingSearch", "<init>", "(LCardClub$Offers;LCardClub$Members;)V"⟩,
  ⟨"CardClub$RingSearch", "lengthOf", "(I)I"⟩,
  ⟨"CardClub$RingSearch", "offerAt", "(II)I"⟩,
  ⟨"CardClub$RingSearch", "find", "()I"⟩,
  ⟨"CardClub$RingSearch", "seatOpenOffers", "()V"⟩,
  ⟨"CardClub$RingSearch", "linkSeats", "()V"⟩,
  ⟨"CardClub$RingSearch", "mayFollow", "(II)Z"⟩,
  ⟨"CardClub$RingSearch", "markRingSets", "()V"⟩,
  ⟨"CardClub$RingSearch", "markFrom", "(IIIII)V"⟩,
  ⟨"CardClub$RingSearch", "wordOf", "(I)I"⟩,
  ⟨"CardClub$RingSearch", "isRingSet", "(I)Z"⟩,
  ⟨"CardClub$RingSearch", "weighSets", "()V"⟩,
  ⟨"CardClub$RingSearch", "weigh", "(I)I"⟩,
  ⟨"CardClub$RingSearch", "worth", "(I)I"⟩,
  ⟨"CardClub$RingSearch", "mostWorth", "(I)I"⟩,
  ⟨"CardClub$RingSearch", "takeFirstRings", "()V"⟩,
  ⟨"CardClub$RingSearch", "firstRing", "(IIIII)I"⟩,
  ⟨"CardClub$RingSearch", "keepRing", "(I)I"⟩,
  ⟨"CardClub$RuleBook", "<init>", "()V"⟩,
  ⟨"CardClub$RuleBook", "under", "()I"⟩,
  ⟨"CardClub$RuleBook", "more", "()I"⟩,
  ⟨"CardClub$RuleBook", "slack", "()I"⟩,
  ⟨"CardClub$RuleBook", "lost", "()I"⟩,
  ⟨"CardClub$RuleBook", "strict", "()I"⟩,
  ⟨"CardClub$RuleBook", "read", "(LCardClub$Tape;)I"⟩,
  ⟨"CardClub$RuleBook", "readWords", "(LCardClub$Tape;)I"⟩,
  ⟨"CardClub$RuleBook", "readWord", "(LCardClub$Tape;)V"⟩,
  ⟨"CardClub$RuleBook", "takeRuleWord", "(LCardClub$Tape;)I"⟩,
  ⟨"CardClub$Tally", "<init>", "()V"⟩,
  ⟨"CardClub$Tally", "take", "(LCardClub$Cards;I)V"⟩,
  ⟨"CardClub$Tally", "add", "(IIII)V"⟩,
  ⟨"CardClub$Tally", "givenBy", "(I)I"⟩,
  ⟨"CardClub$Tally", "gotBy", "(I)I"⟩,
  ⟨"CardClub$Tally", "comingTo", "(I)I"⟩,
  ⟨"CardClub$Tally", "outOf", "(I)I"⟩,
  ⟨"CardClub$Tally", "lostOf", "(I)I"⟩,
  ⟨"CardClub$Tally", "lastSentTo", "(I)I"⟩,
  ⟨"CardClub$Tape", "<init>", "()V"⟩,
  ⟨"CardClub$Tape", "length", "()I"⟩,
  ⟨"CardClub$Tape", "hasRoom", "(I)Z"⟩,
  ⟨"CardClub$Tape", "append", "(I)V"⟩,
  ⟨"CardClub$Tape", "cut", "(I)V"⟩,
  ⟨"CardClub$Tape", "startReading", "()V"⟩,
  ⟨"CardClub$Tape", "isFaulty", "()Z"⟩,
  ⟨"CardClub$Tape", "answerOfFault", "()I"⟩,
  ⟨"CardClub$Tape", "noteFault", "(II)V"⟩,
  ⟨"CardClub$Tape", "noteCannotStand", "()V"⟩,
  ⟨"CardClub$Tape", "place", "()I"⟩,
  ⟨"CardClub$Tape", "isAtEnd", "()Z"⟩,
  ⟨"CardClub$Tape", "takesWord", "(Ljava/lang/String;)Z"⟩,
  ⟨"CardClub$Tape", "takesSign", "(C)Z"⟩,
  ⟨"CardClub$Tape", "takeNumber", "(II)I"⟩,
  ⟨"CardClub$Tape", "skipBlanks", "()V"⟩,
  ⟨"CardClub$Tariffs", "<init>", "()V"⟩,
  ⟨"CardClub$Tariffs", "size", "()I"⟩,
  ⟨"CardClub$Tariffs", "hasRoom", "()Z"⟩,
  ⟨"CardClub$Tariffs", "read", "(LCardClub$Tape;I)I"⟩,
  ⟨"CardClub$Tariffs", "readClause", "(LCardClub$Tape;)V"⟩,
  ⟨"CardClub$Tariffs", "lastGrams", "(I)I"⟩,
  ⟨"CardClub$Tariffs", "coinsFor", "(III)I"⟩,
  ⟨"CardClub$Tariffs", "holdingOn", "(I)I"⟩,
  ⟨"CardClub$Wishes", "<init>", "(LCardClub$Members;[ILCardClub$Tape;)V"⟩,
  ⟨"CardClub$Wishes", "read", "(I)I"⟩,
  ⟨"CardClub$Wishes", "keepDraft", "(I)V"⟩,
  ⟨"CardClub$Wishes", "readEither", "(I)V"⟩,
  ⟨"CardClub$Wishes", "readBoth", "(I)V"⟩,
  ⟨"CardClub$Wishes", "readOne", "(I)V"⟩,
  ⟨"CardClub$Wishes", "readAtom", "(I)V"⟩,
  ⟨"CardClub$Wishes", "takeAtomWord", "()I"⟩,
  ⟨"CardClub$Wishes", "greatestNumber", "(I)I"⟩,
  ⟨"CardClub$Wishes", "addStep", "(II)V"⟩,
  ⟨"CardClub$Wishes", "isMet", "(III)Z"⟩,
  ⟨"CardClub$Wishes", "holdsAtom", "(IIIII)Z"⟩,
  ⟨"CardClub$Wishes", "distance", "(II)I"⟩,
  ⟨"CardClub", "<init>", "()V"⟩,
  ⟨"CardClub", "clock", "(I)Z"⟩,
  ⟨"CardClub", "far", "(III)I"⟩,
  ⟨"CardClub", "member", "(III)I"⟩,
  ⟨"CardClub", "leave", "(I)I"⟩,
  ⟨"CardClub", "cancelCardsTo", "(I)I"⟩,
  ⟨"CardClub", "withdraw", "(I)I"⟩,
  ⟨"CardClub", "feed", "(IIIII)I"⟩,
  ⟨"CardClub", "end", "(I)I"⟩,
  ⟨"CardClub", "wish", "(I)I"⟩,
  ⟨"CardClub", "meets", "(II)I"⟩,
  ⟨"CardClub", "rules", "()I"⟩,
  ⟨"CardClub", "ask", "(I)I"⟩,
  ⟨"CardClub", "may", "(II)I"⟩,
  ⟨"CardClub", "list", "(I)I"⟩,
  ⟨"CardClub", "give", "()I"⟩,
  ⟨"CardClub", "gatherAskers", "()I"⟩,
  ⟨"CardClub", "owed", "(I)I"⟩,
  ⟨"CardClub", "mayAsk", "(I)Z"⟩,
  ⟨"CardClub", "mayGet", "(IIJ)Z"⟩,
  ⟨"CardClub", "unhappy", "(II)I"⟩,
  ⟨"CardClub", "firstReceiver", "(I)I"⟩,
  ⟨"CardClub", "isAhead", "(III)Z"⟩,
  ⟨"CardClub", "send", "(III)I"⟩,
  ⟨"CardClub", "arrive", "(II)Z"⟩,
  ⟨"CardClub", "back", "(I)Z"⟩,
  ⟨"CardClub", "card", "(II)I"⟩,
  ⟨"CardClub", "state", "(III)I"⟩,
  ⟨"CardClub", "about", "(II)I"⟩,
  ⟨"CardClub", "album", "(I)I"⟩,
  ⟨"CardClub", "span", "(III)I"⟩,
  ⟨"CardClub", "offer", "(III)I"⟩,
  ⟨"CardClub", "away", "(I)Z"⟩,
  ⟨"CardClub", "rings", "()I"⟩,
  ⟨"CardClub", "ring", "(II)I"⟩,
  ⟨"CardClub", "close", "(I)I"⟩,
  ⟨"CardClub", "drop", "(II)I"⟩,
  ⟨"CardClub", "offers", "(II)I"⟩,
  ⟨"CardClub", "rates", "(I)I"⟩,
  ⟨"CardClub", "price", "(IIII)I"⟩,
  ⟨"CardClub", "stamps", "(III)Z"⟩,
  ⟨"CardClub", "pay", "(II)I"⟩,
  ⟨"CardClub", "paid", "(I)I"⟩,
  ⟨"CardClub", "zone", "(II)I"⟩,
  ⟨"CardClub", "count", "(I)I"⟩,
  ⟨"CardClub", "countOfDrawer", "(I)I"⟩,
  ⟨"CardClub", "within", "(III)Z"⟩,
  ⟨"CardClub", "isDay", "(I)Z"⟩,
  ⟨"CardClub", "isLand", "(I)Z"⟩,
  ⟨"CardClub", "entry", "([III)I"⟩,
  ⟨"CardClubModel", "<init>", "()V"⟩,
  ⟨"CardClubModel", "in", "(III)Z"⟩,
  ⟨"CardClubModel", "isDay", "(I)Z"⟩,
  ⟨"CardClubModel", "isLand", "(I)Z"⟩,
  ⟨"CardClubModel", "isMember", "(I)Z"⟩,
  ⟨"CardClubModel", "clock", "(I)Z"⟩,
  ⟨"CardClubModel", "far", "(III)I"⟩,
  ⟨"CardClubModel", "member", "(III)I"⟩,
  ⟨"CardClubModel", "four", "(I)V"⟩,
  ⟨"CardClubModel", "feed", "(IIIII)I"⟩,
  ⟨"CardClubModel", "end", "(I)I"⟩,
  ⟨"CardClubModel", "fails", "(II)Z"⟩,
  ⟨"CardClubModel", "see", "()I"⟩,
  ⟨"CardClubModel", "wordHere", "()I"⟩,
  ⟨"CardClubModel", "number", "(II)Z"⟩,
  ⟨"CardClubModel", "writes", "(I)V"⟩,
  ⟨"CardClubModel", "deep", "()I"⟩,
  ⟨"CardClubModel", "atom", "(I)Z"⟩,
  ⟨"CardClubModel", "closesNots", "()V"⟩,
  ⟨"CardClubModel", "closesDown", "(I)V"⟩,
  ⟨"CardClubModel", "begins", "()Z"⟩,
  ⟨"CardClubModel", "either", "()Z"⟩,
  ⟨"CardClubModel", "wish", "(I)I"⟩,
  ⟨"CardClubModel", "isAtom", "(III)Z"⟩,
  ⟨"CardClubModel", "isMet", "(II)Z"⟩,
  ⟨"CardClubModel", "meets", "(II)I"⟩,
  ⟨"CardClubModel", "unhappy", "(II)I"⟩,
  ⟨"CardClubModel", "without", "(I)I"⟩,
  ⟨"CardClubModel", "mostOf", "(I)I"⟩,
  ⟨"CardClubModel", "rules", "()I"⟩,
  ⟨"CardClubModel", "arrival", "(II)I"⟩,
  ⟨"CardClubModel", "stateAt", "(III)I"⟩,
  ⟨"CardClubModel", "stateNow", "(I)I"⟩,
  ⟨"CardClubModel", "hasArrived", "(I)Z"⟩,
  ⟨"CardClubModel", "state", "(III)I"⟩,
  ⟨"CardClubModel", "spans", "(II)V"⟩,
  ⟨"CardClubModel", "span", "(III)I"⟩,
  ⟨"CardClubModel", "sends", "(III)I"⟩,
  ⟨"CardClubModel", "given", "(I)I"⟩,
  ⟨"CardClubModel", "got", "(I)I"⟩,
  ⟨"CardClubModel", "coming", "(I)I"⟩,
  ⟨"CardClubModel", "ofHis", "(II)I"⟩,
  ⟨"CardClubModel", "owed", "(I)I"⟩,
  ⟨"CardClubModel", "mayAsk", "(I)Z"⟩,
  ⟨"CardClubModel", "isKin", "(II)Z"⟩,
  ⟨"CardClubModel", "mayGet", "(II)Z"⟩,
  ⟨"CardClubModel", "may", "(II)I"⟩,
  ⟨"CardClubModel", "lastSentTo", "(I)I"⟩,
  ⟨"CardClubModel", "ask", "(I)I"⟩,
  ⟨"CardClubModel", "list", "(I)I"⟩,
  ⟨"CardClubModel", "best", "(IJ)J"⟩,
  ⟨"CardClubModel", "weighs", "()V"⟩,
  ⟨"CardClubModel", "give", "()I"⟩,
  ⟨"CardClubModel", "tells", "(II)V"⟩,
  ⟨"CardClubModel", "arrive", "(II)Z"⟩,
  ⟨"CardClubModel", "back", "(I)Z"⟩,
  ⟨"CardClubModel", "card", "(II)I"⟩,
  ⟨"CardClubModel", "about", "(II)I"⟩,
  ⟨"CardClubModel", "album", "(I)I"⟩,
  ⟨"CardClubModel", "offer", "(III)I"⟩,
  ⟨"CardClubModel", "away", "(I)Z"⟩,
  ⟨"CardClubModel", "goesTo", "(II)Z"⟩,
  ⟨"CardClubModel", "mayJoin", "(II)Z"⟩,
  ⟨"CardClubModel", "notes", "(I)V"⟩,
  ⟨"CardClubModel", "ringsOf", "(I)V"⟩,
  ⟨"CardClubModel", "sizeOf", "(I)I"⟩,
  ⟨"CardClubModel", "leastOf", "(I)I"⟩,
  ⟨"CardClubModel", "withRing", "(II)I"⟩,
  ⟨"CardClubModel", "rings", "()I"⟩,
  ⟨"CardClubModel", "finds", "()V"⟩,
  ⟨"CardClubModel", "ring", "(II)I"⟩,
  ⟨"CardClubModel", "close", "(I)I"⟩,
  ⟨"CardClubModel", "cardOf", "(II)I"⟩,
  ⟨"CardClubModel", "offerIn", "(II)I"⟩,
  ⟨"CardClubModel", "drops", "(II)I"⟩,
  ⟨"CardClubModel", "drop", "(II)I"⟩,
  ⟨"CardClubModel", "leave", "(I)I"⟩,
  ⟨"CardClubModel", "offers", "(II)I"⟩,
  ⟨"CardClubModel", "clause", "(I)Z"⟩,
  ⟨"CardClubModel", "rates", "(I)I"⟩,
  ⟨"CardClubModel", "priceOf", "(IIII)I"⟩,
  ⟨"CardClubModel", "price", "(IIII)I"⟩,
  ⟨"CardClubModel", "stamps", "(III)Z"⟩,
  ⟨"CardClubModel", "makes", "()V"⟩,
  ⟨"CardClubModel", "pay", "(II)I"⟩,
  ⟨"CardClubModel", "paid", "(I)I"⟩,
  ⟨"CardClubModel", "count", "(I)I"⟩,
  ⟨"java/lang/Integer", "bitCount", "(I)I"⟩,
  ⟨"java/lang/Math", "max", "(II)I"⟩,
  ⟨"java/lang/Math", "min", "(II)I"⟩,
  ⟨"java/lang/Math", "min", "(JJ)J"⟩,
  ⟨"java/lang/String", "length", "()I"⟩,
  ⟨"java/lang/String", "charAt", "(I)C"⟩,
  ⟨"java/lang/String", "coder", "()B"⟩,
  ⟨"java/lang/String", "isLatin1", "()Z"⟩,
  ⟨"java/lang/String", "checkIndex", "(II)V"⟩,
  ⟨"java/lang/StringLatin1", "charAt", "([BI)C"⟩,
  ⟨"java/lang/StringUTF16", "getChar", "([BI)C"⟩,
  ⟨"java/lang/StringUTF16", "length", "([B)I"⟩,
  ⟨"java/lang/StringUTF16", "charAt", "([BI)C"⟩,
  ⟨"java/lang/StringUTF16", "checkIndex", "(I[B)V"⟩,
  ⟨"jdk/internal/util/Preconditions", "checkIndex", "(IILjava/util/function/BiFunction;)I"⟩,
  ⟨"CardClubLaw", "law", "([I)Z"⟩]
def jxnm (y : Nat) : MethodName := jxnmT.getD y ⟨"", "", ""⟩
def jxcd (y : Nat) : ByteArray := (bif Nat.ble 153 y then (bif Nat.ble 229 y then (bif Nat.ble 267 y then (bif Nat.ble 286 y then (bif Nat.ble 296 y then (bif Nat.ble 301 y then (bif Nat.ble 303 y then (bif Nat.ble 304 y then (bif Nat.ble 305 y then (bif Nat.beq y 305 then code else ⟨#[]⟩) else (bif Nat.beq y 304 then prog_20_method_11_code else ⟨#[]⟩)) else (bif Nat.beq y 303 then prog_19_method_91_code else ⟨#[]⟩)) else (bif Nat.ble 302 y then (bif Nat.beq y 302 then prog_19_method_83_code else ⟨#[]⟩) else (bif Nat.beq y 301 then prog_19_method_6_code else ⟨#[]⟩))) else (bif Nat.ble 298 y then (bif Nat.ble 299 y then (bif Nat.ble 300 y then (bif Nat.beq y 300 then prog_19_method_5_code else ⟨#[]⟩) else (bif Nat.beq y 299 then prog_18_method_2_code else ⟨#[]⟩)) else (bif Nat.beq y 298 then prog_17_method_155_code else ⟨#[]⟩)) else (bif Nat.ble 297 y then (bif Nat.beq y 297 then prog_17_method_154_code else ⟨#[]⟩) else (bif Nat.beq y 296 then prog_17_method_152_code else ⟨#[]⟩)))) else (bif Nat.ble 291 y then (bif Nat.ble 293 y then (bif Nat.ble 294 y then (bif Nat.ble 295 y then (bif Nat.beq y 295 then prog_17_method_56_code else ⟨#[]⟩) else (bif Nat.beq y 294 then prog_17_method_54_code else ⟨#[]⟩)) else (bif Nat.beq y 293 then prog_16_method_70_code else ⟨#[]⟩)) else (bif Nat.ble 292 y then (bif Nat.beq y 292 then prog_16_method_69_code else ⟨#[]⟩) else (bif Nat.beq y 291 then prog_16_method_65_code else ⟨#[]⟩))) else (bif Nat.ble 288 y then (bif Nat.ble 289 y then (bif Nat.ble 290 y then (bif Nat.beq y 290 then prog_15_method_49_code else ⟨#[]⟩) else (bif Nat.beq y 289 then prog_14_method_87_code else ⟨#[]⟩)) else (bif Nat.beq y 288 then prog_14_method_86_code else ⟨#[]⟩)) else (bif Nat.ble 287 y then (bif Nat.beq y 287 then prog_14_method_85_code else ⟨#[]⟩) else (bif Nat.beq y 286 then prog_14_method_84_code else ⟨#[]⟩))))) else (bif Nat.ble 276 y then (bif Nat.ble 281 y then (bif Nat.ble 283 y then (bif Nat.ble 284 y then (bif Nat.ble 285 y then (bif Nat.beq y 285 then prog_14_method_83_code else ⟨#[]⟩) else (bif Nat.beq y 284 then prog_14_method_82_code else ⟨#[]⟩)) else (bif Nat.beq y 283 then prog_14_method_81_code else ⟨#[]⟩)) else (bif Nat.ble 282 y then (bif Nat.beq y 282 then prog_14_method_80_code else ⟨#[]⟩) else (bif Nat.beq y 281 then prog_14_method_79_code else ⟨#[]⟩))) else (bif Nat.ble 278 y then (bif Nat.ble 279 y then (bif Nat.ble 280 y then (bif Nat.beq y 280 then prog_14_method_78_code else ⟨#[]⟩) else (bif Nat.beq y 279 then prog_14_method_77_code else ⟨#[]⟩)) else (bif Nat.beq y 278 then prog_14_method_76_code else ⟨#[]⟩)) else (bif Nat.ble 277 y then (bif Nat.beq y 277 then prog_14_method_75_code else ⟨#[]⟩) else (bif Nat.beq y 276 then prog_14_method_74_code else ⟨#[]⟩)))) else (bif Nat.ble 271 y then (bif Nat.ble 273 y then (bif Nat.ble 274 y then (bif Nat.ble 275 y then (bif Nat.beq y 275 then prog_14_method_73_code else ⟨#[]⟩) else (bif Nat.beq y 274 then prog_14_method_72_code else ⟨#[]⟩)) else (bif Nat.beq y 273 then prog_14_method_71_code else ⟨#[]⟩)) else (bif Nat.ble 272 y then (bif Nat.beq y 272 then prog_14_method_70_code else ⟨#[]⟩) else (bif Nat.beq y 271 then prog_14_method_69_code else ⟨#[]⟩))) else (bif Nat.ble 269 y then (bif Nat.ble 270 y then (bif Nat.beq y 270 then prog_14_method_68_code else ⟨#[]⟩) else (bif Nat.beq y 269 then prog_14_method_67_code else ⟨#[]⟩)) else (bif Nat.ble 268 y then (bif Nat.beq y 268 then prog_14_method_66_code else ⟨#[]⟩) else (bif Nat.beq y 267 then prog_14_method_65_code else ⟨#[]⟩)))))) else (bif Nat.ble 248 y then (bif Nat.ble 257 y then (bif Nat.ble 262 y then (bif Nat.ble 264 y then (bif Nat.ble 265 y then (bif Nat.ble 266 y then (bif Nat.beq y 266 then prog_14_method_64_code else ⟨#[]⟩) else (bif Nat.beq y 265 then prog_14_method_63_code else ⟨#[]⟩)) else (bif Nat.beq y 264 then prog_14_method_62_code else ⟨#[]⟩)) else (bif Nat.ble 263 y then (bif Nat.beq y 263 then prog_14_method_61_code else ⟨#[]⟩) else (bif Nat.beq y 262 then prog_14_method_60_code else ⟨#[]⟩))) else (bif Nat.ble 259 y then (bif Nat.ble 260 y then (bif Nat.ble 261 y then (bif Nat.beq y 261 then prog_14_method_59_code else ⟨#[]⟩) else (bif Nat.beq y 260 then prog_14_method_58_code else ⟨#[]⟩)) else (bif Nat.beq y 259 then prog_14_method_57_code else ⟨#[]⟩)) else (bif Nat.ble 258 y then (bif Nat.beq y 258 then prog_14_method_56_code else ⟨#[]⟩) else (bif Nat.beq y 257 then prog_14_method_55_code else ⟨#[]⟩)))) else (bif Nat.ble 252 y then (bif Nat.ble 254 y then (bif Nat.ble 255 y then (bif Nat.ble 256 y then (bif Nat.beq y 256 then prog_14_method_54_code else ⟨#[]⟩) else (bif Nat.beq y 255 then prog_14_method_53_code else ⟨#[]⟩)) else (bif Nat.beq y 254 then prog_14_method_52_code else ⟨#[]⟩)) else (bif Nat.ble 253 y then (bif Nat.beq y 253 then prog_14_method_51_code else ⟨#[]⟩) else (bif Nat.beq y 252 then prog_14_method_50_code else ⟨#[]⟩))) else (bif Nat.ble 250 y then (bif Nat.ble 251 y then (bif Nat.beq y 251 then prog_14_method_49_code else ⟨#[]⟩) else (bif Nat.beq y 250 then prog_14_method_48_code else ⟨#[]⟩)) else (bif Nat.ble 249 y then (bif Nat.beq y 249 then prog_14_method_47_code else ⟨#[]⟩) else (bif Nat.beq y 248 then prog_14_method_46_code else ⟨#[]⟩))))) else (bif Nat.ble 238 y then (bif Nat.ble 243 y then (bif Nat.ble 245 y then (bif Nat.ble 246 y then (bif Nat.ble 247 y then (bif Nat.beq y 247 then prog_14_method_45_code else ⟨#[]⟩) else (bif Nat.beq y 246 then prog_14_method_44_code else ⟨#[]⟩)) else (bif Nat.beq y 245 then prog_14_method_43_code else ⟨#[]⟩)) else (bif Nat.ble 244 y then (bif Nat.beq y 244 then prog_14_method_42_code else ⟨#[]⟩) else (bif Nat.beq y 243 then prog_14_method_41_code else ⟨#[]⟩))) else (bif Nat.ble 240 y then (bif Nat.ble 241 y then (bif Nat.ble 242 y then (bif Nat.beq y 242 then prog_14_method_40_code else ⟨#[]⟩) else (bif Nat.beq y 241 then prog_14_method_39_code else ⟨#[]⟩)) else (bif Nat.beq y 240 then prog_14_method_38_code else ⟨#[]⟩)) else (bif Nat.ble 239 y then (bif Nat.beq y 239 then prog_14_method_37_code else ⟨#[]⟩) else (bif Nat.beq y 238 then prog_14_method_36_code else ⟨#[]⟩)))) else (bif Nat.ble 233 y then (bif Nat.ble 235 y then (bif Nat.ble 236 y then (bif Nat.ble 237 y then (bif Nat.beq y 237 then prog_14_method_35_code else ⟨#[]⟩) else (bif Nat.beq y 236 then prog_14_method_34_code else ⟨#[]⟩)) else (bif Nat.beq y 235 then prog_14_method_33_code else ⟨#[]⟩)) else (bif Nat.ble 234 y then (bif Nat.beq y 234 then prog_14_method_32_code else ⟨#[]⟩) else (bif Nat.beq y 233 then prog_14_method_31_code else ⟨#[]⟩))) else (bif Nat.ble 231 y then (bif Nat.ble 232 y then (bif Nat.beq y 232 then prog_14_method_30_code else ⟨#[]⟩) else (bif Nat.beq y 231 then prog_14_method_29_code else ⟨#[]⟩)) else (bif Nat.ble 230 y then (bif Nat.beq y 230 then prog_14_method_28_code else ⟨#[]⟩) else (bif Nat.beq y 229 then prog_14_method_27_code else ⟨#[]⟩))))))) else (bif Nat.ble 191 y then (bif Nat.ble 210 y then (bif Nat.ble 219 y then (bif Nat.ble 224 y then (bif Nat.ble 226 y then (bif Nat.ble 227 y then (bif Nat.ble 228 y then (bif Nat.beq y 228 then prog_14_method_26_code else ⟨#[]⟩) else (bif Nat.beq y 227 then prog_14_method_25_code else ⟨#[]⟩)) else (bif Nat.beq y 226 then prog_14_method_24_code else ⟨#[]⟩)) else (bif Nat.ble 225 y then (bif Nat.beq y 225 then prog_14_method_23_code else ⟨#[]⟩) else (bif Nat.beq y 224 then prog_14_method_22_code else ⟨#[]⟩))) else (bif Nat.ble 221 y then (bif Nat.ble 222 y then (bif Nat.ble 223 y then (bif Nat.beq y 223 then prog_14_method_21_code else ⟨#[]⟩) else (bif Nat.beq y 222 then prog_14_method_20_code else ⟨#[]⟩)) else (bif Nat.beq y 221 then prog_14_method_19_code else ⟨#[]⟩)) else (bif Nat.ble 220 y then (bif Nat.beq y 220 then prog_14_method_18_code else ⟨#[]⟩) else (bif Nat.beq y 219 then prog_14_method_17_code else ⟨#[]⟩)))) else (bif Nat.ble 214 y then (bif Nat.ble 216 y then (bif Nat.ble 217 y then (bif Nat.ble 218 y then (bif Nat.beq y 218 then prog_14_method_16_code else ⟨#[]⟩) else (bif Nat.beq y 217 then prog_14_method_15_code else ⟨#[]⟩)) else (bif Nat.beq y 216 then prog_14_method_14_code else ⟨#[]⟩)) else (bif Nat.ble 215 y then (bif Nat.beq y 215 then prog_14_method_13_code else ⟨#[]⟩) else (bif Nat.beq y 214 then prog_14_method_12_code else ⟨#[]⟩))) else (bif Nat.ble 212 y then (bif Nat.ble 213 y then (bif Nat.beq y 213 then prog_14_method_11_code else ⟨#[]⟩) else (bif Nat.beq y 212 then prog_14_method_10_code else ⟨#[]⟩)) else (bif Nat.ble 211 y then (bif Nat.beq y 211 then prog_14_method_9_code else ⟨#[]⟩) else (bif Nat.beq y 210 then prog_14_method_8_code else ⟨#[]⟩))))) else (bif Nat.ble 200 y then (bif Nat.ble 205 y then (bif Nat.ble 207 y then (bif Nat.ble 208 y then (bif Nat.ble 209 y then (bif Nat.beq y 209 then prog_14_method_7_code else ⟨#[]⟩) else (bif Nat.beq y 208 then prog_14_method_6_code else ⟨#[]⟩)) else (bif Nat.beq y 207 then prog_14_method_5_code else ⟨#[]⟩)) else (bif Nat.ble 206 y then (bif Nat.beq y 206 then prog_14_method_4_code else ⟨#[]⟩) else (bif Nat.beq y 205 then prog_14_method_3_code else ⟨#[]⟩))) else (bif Nat.ble 202 y then (bif Nat.ble 203 y then (bif Nat.ble 204 y then (bif Nat.beq y 204 then prog_14_method_2_code else ⟨#[]⟩) else (bif Nat.beq y 203 then prog_14_method_1_code else ⟨#[]⟩)) else (bif Nat.beq y 202 then prog_1_method_50_code else ⟨#[]⟩)) else (bif Nat.ble 201 y then (bif Nat.beq y 201 then prog_1_method_49_code else ⟨#[]⟩) else (bif Nat.beq y 200 then prog_1_method_48_code else ⟨#[]⟩)))) else (bif Nat.ble 195 y then (bif Nat.ble 197 y then (bif Nat.ble 198 y then (bif Nat.ble 199 y then (bif Nat.beq y 199 then prog_1_method_47_code else ⟨#[]⟩) else (bif Nat.beq y 198 then prog_1_method_46_code else ⟨#[]⟩)) else (bif Nat.beq y 197 then prog_1_method_45_code else ⟨#[]⟩)) else (bif Nat.ble 196 y then (bif Nat.beq y 196 then prog_1_method_44_code else ⟨#[]⟩) else (bif Nat.beq y 195 then prog_1_method_43_code else ⟨#[]⟩))) else (bif Nat.ble 193 y then (bif Nat.ble 194 y then (bif Nat.beq y 194 then prog_1_method_42_code else ⟨#[]⟩) else (bif Nat.beq y 193 then prog_1_method_41_code else ⟨#[]⟩)) else (bif Nat.ble 192 y then (bif Nat.beq y 192 then prog_1_method_40_code else ⟨#[]⟩) else (bif Nat.beq y 191 then prog_1_method_39_code else ⟨#[]⟩)))))) else (bif Nat.ble 172 y then (bif Nat.ble 181 y then (bif Nat.ble 186 y then (bif Nat.ble 188 y then (bif Nat.ble 189 y then (bif Nat.ble 190 y then (bif Nat.beq y 190 then prog_1_method_38_code else ⟨#[]⟩) else (bif Nat.beq y 189 then prog_1_method_37_code else ⟨#[]⟩)) else (bif Nat.beq y 188 then prog_1_method_36_code else ⟨#[]⟩)) else (bif Nat.ble 187 y then (bif Nat.beq y 187 then prog_1_method_35_code else ⟨#[]⟩) else (bif Nat.beq y 186 then prog_1_method_34_code else ⟨#[]⟩))) else (bif Nat.ble 183 y then (bif Nat.ble 184 y then (bif Nat.ble 185 y then (bif Nat.beq y 185 then prog_1_method_33_code else ⟨#[]⟩) else (bif Nat.beq y 184 then prog_1_method_32_code else ⟨#[]⟩)) else (bif Nat.beq y 183 then prog_1_method_31_code else ⟨#[]⟩)) else (bif Nat.ble 182 y then (bif Nat.beq y 182 then prog_1_method_30_code else ⟨#[]⟩) else (bif Nat.beq y 181 then prog_1_method_29_code else ⟨#[]⟩)))) else (bif Nat.ble 176 y then (bif Nat.ble 178 y then (bif Nat.ble 179 y then (bif Nat.ble 180 y then (bif Nat.beq y 180 then prog_1_method_28_code else ⟨#[]⟩) else (bif Nat.beq y 179 then prog_1_method_27_code else ⟨#[]⟩)) else (bif Nat.beq y 178 then prog_1_method_26_code else ⟨#[]⟩)) else (bif Nat.ble 177 y then (bif Nat.beq y 177 then prog_1_method_25_code else ⟨#[]⟩) else (bif Nat.beq y 176 then prog_1_method_24_code else ⟨#[]⟩))) else (bif Nat.ble 174 y then (bif Nat.ble 175 y then (bif Nat.beq y 175 then prog_1_method_23_code else ⟨#[]⟩) else (bif Nat.beq y 174 then prog_1_method_22_code else ⟨#[]⟩)) else (bif Nat.ble 173 y then (bif Nat.beq y 173 then prog_1_method_21_code else ⟨#[]⟩) else (bif Nat.beq y 172 then prog_1_method_20_code else ⟨#[]⟩))))) else (bif Nat.ble 162 y then (bif Nat.ble 167 y then (bif Nat.ble 169 y then (bif Nat.ble 170 y then (bif Nat.ble 171 y then (bif Nat.beq y 171 then prog_1_method_19_code else ⟨#[]⟩) else (bif Nat.beq y 170 then prog_1_method_18_code else ⟨#[]⟩)) else (bif Nat.beq y 169 then prog_1_method_17_code else ⟨#[]⟩)) else (bif Nat.ble 168 y then (bif Nat.beq y 168 then prog_1_method_16_code else ⟨#[]⟩) else (bif Nat.beq y 167 then prog_1_method_15_code else ⟨#[]⟩))) else (bif Nat.ble 164 y then (bif Nat.ble 165 y then (bif Nat.ble 166 y then (bif Nat.beq y 166 then prog_1_method_14_code else ⟨#[]⟩) else (bif Nat.beq y 165 then prog_1_method_13_code else ⟨#[]⟩)) else (bif Nat.beq y 164 then prog_1_method_12_code else ⟨#[]⟩)) else (bif Nat.ble 163 y then (bif Nat.beq y 163 then prog_1_method_11_code else ⟨#[]⟩) else (bif Nat.beq y 162 then prog_1_method_10_code else ⟨#[]⟩)))) else (bif Nat.ble 157 y then (bif Nat.ble 159 y then (bif Nat.ble 160 y then (bif Nat.ble 161 y then (bif Nat.beq y 161 then prog_1_method_9_code else ⟨#[]⟩) else (bif Nat.beq y 160 then prog_1_method_8_code else ⟨#[]⟩)) else (bif Nat.beq y 159 then prog_1_method_7_code else ⟨#[]⟩)) else (bif Nat.ble 158 y then (bif Nat.beq y 158 then prog_1_method_6_code else ⟨#[]⟩) else (bif Nat.beq y 157 then prog_1_method_5_code else ⟨#[]⟩))) else (bif Nat.ble 155 y then (bif Nat.ble 156 y then (bif Nat.beq y 156 then prog_1_method_4_code else ⟨#[]⟩) else (bif Nat.beq y 155 then prog_1_method_3_code else ⟨#[]⟩)) else (bif Nat.ble 154 y then (bif Nat.beq y 154 then prog_1_method_2_code else ⟨#[]⟩) else (bif Nat.beq y 153 then prog_1_method_1_code else ⟨#[]⟩)))))))) else (bif Nat.ble 76 y then (bif Nat.ble 114 y then (bif Nat.ble 133 y then (bif Nat.ble 143 y then (bif Nat.ble 148 y then (bif Nat.ble 150 y then (bif Nat.ble 151 y then (bif Nat.ble 152 y then (bif Nat.beq y 152 then prog_12_method_13_code else ⟨#[]⟩) else (bif Nat.beq y 151 then prog_12_method_12_code else ⟨#[]⟩)) else (bif Nat.beq y 150 then prog_12_method_11_code else ⟨#[]⟩)) else (bif Nat.ble 149 y then (bif Nat.beq y 149 then prog_12_method_10_code else ⟨#[]⟩) else (bif Nat.beq y 148 then prog_12_method_9_code else ⟨#[]⟩))) else (bif Nat.ble 145 y then (bif Nat.ble 146 y then (bif Nat.ble 147 y then (bif Nat.beq y 147 then prog_12_method_8_code else ⟨#[]⟩) else (bif Nat.beq y 146 then prog_12_method_7_code else ⟨#[]⟩)) else (bif Nat.beq y 145 then prog_12_method_6_code else ⟨#[]⟩)) else (bif Nat.ble 144 y then (bif Nat.beq y 144 then prog_12_method_5_code else ⟨#[]⟩) else (bif Nat.beq y 143 then prog_12_method_4_code else ⟨#[]⟩)))) else (bif Nat.ble 138 y then (bif Nat.ble 140 y then (bif Nat.ble 141 y then (bif Nat.ble 142 y then (bif Nat.beq y 142 then prog_12_method_3_code else ⟨#[]⟩) else (bif Nat.beq y 141 then prog_12_method_2_code else ⟨#[]⟩)) else (bif Nat.beq y 140 then prog_12_method_1_code else ⟨#[]⟩)) else (bif Nat.ble 139 y then (bif Nat.beq y 139 then prog_11_method_8_code else ⟨#[]⟩) else (bif Nat.beq y 138 then prog_11_method_7_code else ⟨#[]⟩))) else (bif Nat.ble 135 y then (bif Nat.ble 136 y then (bif Nat.ble 137 y then (bif Nat.beq y 137 then prog_11_method_6_code else ⟨#[]⟩) else (bif Nat.beq y 136 then prog_11_method_5_code else ⟨#[]⟩)) else (bif Nat.beq y 135 then prog_11_method_4_code else ⟨#[]⟩)) else (bif Nat.ble 134 y then (bif Nat.beq y 134 then prog_11_method_3_code else ⟨#[]⟩) else (bif Nat.beq y 133 then prog_11_method_2_code else ⟨#[]⟩))))) else (bif Nat.ble 123 y then (bif Nat.ble 128 y then (bif Nat.ble 130 y then (bif Nat.ble 131 y then (bif Nat.ble 132 y then (bif Nat.beq y 132 then prog_11_method_1_code else ⟨#[]⟩) else (bif Nat.beq y 131 then prog_10_method_16_code else ⟨#[]⟩)) else (bif Nat.beq y 130 then prog_10_method_15_code else ⟨#[]⟩)) else (bif Nat.ble 129 y then (bif Nat.beq y 129 then prog_10_method_14_code else ⟨#[]⟩) else (bif Nat.beq y 128 then prog_10_method_13_code else ⟨#[]⟩))) else (bif Nat.ble 125 y then (bif Nat.ble 126 y then (bif Nat.ble 127 y then (bif Nat.beq y 127 then prog_10_method_12_code else ⟨#[]⟩) else (bif Nat.beq y 126 then prog_10_method_11_code else ⟨#[]⟩)) else (bif Nat.beq y 125 then prog_10_method_10_code else ⟨#[]⟩)) else (bif Nat.ble 124 y then (bif Nat.beq y 124 then prog_10_method_9_code else ⟨#[]⟩) else (bif Nat.beq y 123 then prog_10_method_8_code else ⟨#[]⟩)))) else (bif Nat.ble 118 y then (bif Nat.ble 120 y then (bif Nat.ble 121 y then (bif Nat.ble 122 y then (bif Nat.beq y 122 then prog_10_method_7_code else ⟨#[]⟩) else (bif Nat.beq y 121 then prog_10_method_6_code else ⟨#[]⟩)) else (bif Nat.beq y 120 then prog_10_method_5_code else ⟨#[]⟩)) else (bif Nat.ble 119 y then (bif Nat.beq y 119 then prog_10_method_4_code else ⟨#[]⟩) else (bif Nat.beq y 118 then prog_10_method_3_code else ⟨#[]⟩))) else (bif Nat.ble 116 y then (bif Nat.ble 117 y then (bif Nat.beq y 117 then prog_10_method_2_code else ⟨#[]⟩) else (bif Nat.beq y 116 then prog_10_method_1_code else ⟨#[]⟩)) else (bif Nat.ble 115 y then (bif Nat.beq y 115 then prog_9_method_9_code else ⟨#[]⟩) else (bif Nat.beq y 114 then prog_9_method_8_code else ⟨#[]⟩)))))) else (bif Nat.ble 95 y then (bif Nat.ble 104 y then (bif Nat.ble 109 y then (bif Nat.ble 111 y then (bif Nat.ble 112 y then (bif Nat.ble 113 y then (bif Nat.beq y 113 then prog_9_method_7_code else ⟨#[]⟩) else (bif Nat.beq y 112 then prog_9_method_6_code else ⟨#[]⟩)) else (bif Nat.beq y 111 then prog_9_method_5_code else ⟨#[]⟩)) else (bif Nat.ble 110 y then (bif Nat.beq y 110 then prog_9_method_4_code else ⟨#[]⟩) else (bif Nat.beq y 109 then prog_9_method_3_code else ⟨#[]⟩))) else (bif Nat.ble 106 y then (bif Nat.ble 107 y then (bif Nat.ble 108 y then (bif Nat.beq y 108 then prog_9_method_2_code else ⟨#[]⟩) else (bif Nat.beq y 107 then prog_9_method_1_code else ⟨#[]⟩)) else (bif Nat.beq y 106 then prog_8_method_10_code else ⟨#[]⟩)) else (bif Nat.ble 105 y then (bif Nat.beq y 105 then prog_8_method_9_code else ⟨#[]⟩) else (bif Nat.beq y 104 then prog_8_method_8_code else ⟨#[]⟩)))) else (bif Nat.ble 99 y then (bif Nat.ble 101 y then (bif Nat.ble 102 y then (bif Nat.ble 103 y then (bif Nat.beq y 103 then prog_8_method_7_code else ⟨#[]⟩) else (bif Nat.beq y 102 then prog_8_method_6_code else ⟨#[]⟩)) else (bif Nat.beq y 101 then prog_8_method_5_code else ⟨#[]⟩)) else (bif Nat.ble 100 y then (bif Nat.beq y 100 then prog_8_method_4_code else ⟨#[]⟩) else (bif Nat.beq y 99 then prog_8_method_3_code else ⟨#[]⟩))) else (bif Nat.ble 97 y then (bif Nat.ble 98 y then (bif Nat.beq y 98 then prog_8_method_2_code else ⟨#[]⟩) else (bif Nat.beq y 97 then prog_8_method_1_code else ⟨#[]⟩)) else (bif Nat.ble 96 y then (bif Nat.beq y 96 then prog_7_method_18_code else ⟨#[]⟩) else (bif Nat.beq y 95 then prog_7_method_17_code else ⟨#[]⟩))))) else (bif Nat.ble 85 y then (bif Nat.ble 90 y then (bif Nat.ble 92 y then (bif Nat.ble 93 y then (bif Nat.ble 94 y then (bif Nat.beq y 94 then prog_7_method_16_code else ⟨#[]⟩) else (bif Nat.beq y 93 then prog_7_method_15_code else ⟨#[]⟩)) else (bif Nat.beq y 92 then prog_7_method_14_code else ⟨#[]⟩)) else (bif Nat.ble 91 y then (bif Nat.beq y 91 then prog_7_method_13_code else ⟨#[]⟩) else (bif Nat.beq y 90 then prog_7_method_12_code else ⟨#[]⟩))) else (bif Nat.ble 87 y then (bif Nat.ble 88 y then (bif Nat.ble 89 y then (bif Nat.beq y 89 then prog_7_method_11_code else ⟨#[]⟩) else (bif Nat.beq y 88 then prog_7_method_10_code else ⟨#[]⟩)) else (bif Nat.beq y 87 then prog_7_method_9_code else ⟨#[]⟩)) else (bif Nat.ble 86 y then (bif Nat.beq y 86 then prog_7_method_8_code else ⟨#[]⟩) else (bif Nat.beq y 85 then prog_7_method_7_code else ⟨#[]⟩)))) else (bif Nat.ble 80 y then (bif Nat.ble 82 y then (bif Nat.ble 83 y then (bif Nat.ble 84 y then (bif Nat.beq y 84 then prog_7_method_6_code else ⟨#[]⟩) else (bif Nat.beq y 83 then prog_7_method_5_code else ⟨#[]⟩)) else (bif Nat.beq y 82 then prog_7_method_4_code else ⟨#[]⟩)) else (bif Nat.ble 81 y then (bif Nat.beq y 81 then prog_7_method_3_code else ⟨#[]⟩) else (bif Nat.beq y 80 then prog_7_method_2_code else ⟨#[]⟩))) else (bif Nat.ble 78 y then (bif Nat.ble 79 y then (bif Nat.beq y 79 then prog_7_method_1_code else ⟨#[]⟩) else (bif Nat.beq y 78 then prog_6_method_17_code else ⟨#[]⟩)) else (bif Nat.ble 77 y then (bif Nat.beq y 77 then prog_6_method_16_code else ⟨#[]⟩) else (bif Nat.beq y 76 then prog_6_method_15_code else ⟨#[]⟩))))))) else (bif Nat.ble 38 y then (bif Nat.ble 57 y then (bif Nat.ble 66 y then (bif Nat.ble 71 y then (bif Nat.ble 73 y then (bif Nat.ble 74 y then (bif Nat.ble 75 y then (bif Nat.beq y 75 then prog_6_method_14_code else ⟨#[]⟩) else (bif Nat.beq y 74 then prog_6_method_13_code else ⟨#[]⟩)) else (bif Nat.beq y 73 then prog_6_method_12_code else ⟨#[]⟩)) else (bif Nat.ble 72 y then (bif Nat.beq y 72 then prog_6_method_11_code else ⟨#[]⟩) else (bif Nat.beq y 71 then prog_6_method_10_code else ⟨#[]⟩))) else (bif Nat.ble 68 y then (bif Nat.ble 69 y then (bif Nat.ble 70 y then (bif Nat.beq y 70 then prog_6_method_9_code else ⟨#[]⟩) else (bif Nat.beq y 69 then prog_6_method_8_code else ⟨#[]⟩)) else (bif Nat.beq y 68 then prog_6_method_7_code else ⟨#[]⟩)) else (bif Nat.ble 67 y then (bif Nat.beq y 67 then prog_6_method_6_code else ⟨#[]⟩) else (bif Nat.beq y 66 then prog_6_method_5_code else ⟨#[]⟩)))) else (bif Nat.ble 61 y then (bif Nat.ble 63 y then (bif Nat.ble 64 y then (bif Nat.ble 65 y then (bif Nat.beq y 65 then prog_6_method_4_code else ⟨#[]⟩) else (bif Nat.beq y 64 then prog_6_method_3_code else ⟨#[]⟩)) else (bif Nat.beq y 63 then prog_6_method_2_code else ⟨#[]⟩)) else (bif Nat.ble 62 y then (bif Nat.beq y 62 then prog_6_method_1_code else ⟨#[]⟩) else (bif Nat.beq y 61 then prog_5_method_13_code else ⟨#[]⟩))) else (bif Nat.ble 59 y then (bif Nat.ble 60 y then (bif Nat.beq y 60 then prog_5_method_12_code else ⟨#[]⟩) else (bif Nat.beq y 59 then prog_5_method_11_code else ⟨#[]⟩)) else (bif Nat.ble 58 y then (bif Nat.beq y 58 then prog_5_method_10_code else ⟨#[]⟩) else (bif Nat.beq y 57 then prog_5_method_9_code else ⟨#[]⟩))))) else (bif Nat.ble 47 y then (bif Nat.ble 52 y then (bif Nat.ble 54 y then (bif Nat.ble 55 y then (bif Nat.ble 56 y then (bif Nat.beq y 56 then prog_5_method_8_code else ⟨#[]⟩) else (bif Nat.beq y 55 then prog_5_method_7_code else ⟨#[]⟩)) else (bif Nat.beq y 54 then prog_5_method_6_code else ⟨#[]⟩)) else (bif Nat.ble 53 y then (bif Nat.beq y 53 then prog_5_method_5_code else ⟨#[]⟩) else (bif Nat.beq y 52 then prog_5_method_4_code else ⟨#[]⟩))) else (bif Nat.ble 49 y then (bif Nat.ble 50 y then (bif Nat.ble 51 y then (bif Nat.beq y 51 then prog_5_method_3_code else ⟨#[]⟩) else (bif Nat.beq y 50 then prog_5_method_2_code else ⟨#[]⟩)) else (bif Nat.beq y 49 then prog_5_method_1_code else ⟨#[]⟩)) else (bif Nat.ble 48 y then (bif Nat.beq y 48 then prog_4_method_9_code else ⟨#[]⟩) else (bif Nat.beq y 47 then prog_4_method_8_code else ⟨#[]⟩)))) else (bif Nat.ble 42 y then (bif Nat.ble 44 y then (bif Nat.ble 45 y then (bif Nat.ble 46 y then (bif Nat.beq y 46 then prog_4_method_7_code else ⟨#[]⟩) else (bif Nat.beq y 45 then prog_4_method_6_code else ⟨#[]⟩)) else (bif Nat.beq y 44 then prog_4_method_5_code else ⟨#[]⟩)) else (bif Nat.ble 43 y then (bif Nat.beq y 43 then prog_4_method_4_code else ⟨#[]⟩) else (bif Nat.beq y 42 then prog_4_method_3_code else ⟨#[]⟩))) else (bif Nat.ble 40 y then (bif Nat.ble 41 y then (bif Nat.beq y 41 then prog_4_method_2_code else ⟨#[]⟩) else (bif Nat.beq y 40 then prog_4_method_1_code else ⟨#[]⟩)) else (bif Nat.ble 39 y then (bif Nat.beq y 39 then prog_3_method_12_code else ⟨#[]⟩) else (bif Nat.beq y 38 then prog_3_method_11_code else ⟨#[]⟩)))))) else (bif Nat.ble 19 y then (bif Nat.ble 28 y then (bif Nat.ble 33 y then (bif Nat.ble 35 y then (bif Nat.ble 36 y then (bif Nat.ble 37 y then (bif Nat.beq y 37 then prog_3_method_10_code else ⟨#[]⟩) else (bif Nat.beq y 36 then prog_3_method_9_code else ⟨#[]⟩)) else (bif Nat.beq y 35 then prog_3_method_8_code else ⟨#[]⟩)) else (bif Nat.ble 34 y then (bif Nat.beq y 34 then prog_3_method_7_code else ⟨#[]⟩) else (bif Nat.beq y 33 then prog_3_method_6_code else ⟨#[]⟩))) else (bif Nat.ble 30 y then (bif Nat.ble 31 y then (bif Nat.ble 32 y then (bif Nat.beq y 32 then prog_3_method_5_code else ⟨#[]⟩) else (bif Nat.beq y 31 then prog_3_method_4_code else ⟨#[]⟩)) else (bif Nat.beq y 30 then prog_3_method_3_code else ⟨#[]⟩)) else (bif Nat.ble 29 y then (bif Nat.beq y 29 then prog_3_method_2_code else ⟨#[]⟩) else (bif Nat.beq y 28 then prog_3_method_1_code else ⟨#[]⟩)))) else (bif Nat.ble 23 y then (bif Nat.ble 25 y then (bif Nat.ble 26 y then (bif Nat.ble 27 y then (bif Nat.beq y 27 then prog_2_method_28_code else ⟨#[]⟩) else (bif Nat.beq y 26 then prog_2_method_27_code else ⟨#[]⟩)) else (bif Nat.beq y 25 then prog_2_method_26_code else ⟨#[]⟩)) else (bif Nat.ble 24 y then (bif Nat.beq y 24 then prog_2_method_25_code else ⟨#[]⟩) else (bif Nat.beq y 23 then prog_2_method_24_code else ⟨#[]⟩))) else (bif Nat.ble 21 y then (bif Nat.ble 22 y then (bif Nat.beq y 22 then prog_2_method_23_code else ⟨#[]⟩) else (bif Nat.beq y 21 then prog_2_method_22_code else ⟨#[]⟩)) else (bif Nat.ble 20 y then (bif Nat.beq y 20 then prog_2_method_21_code else ⟨#[]⟩) else (bif Nat.beq y 19 then prog_2_method_20_code else ⟨#[]⟩))))) else (bif Nat.ble 9 y then (bif Nat.ble 14 y then (bif Nat.ble 16 y then (bif Nat.ble 17 y then (bif Nat.ble 18 y then (bif Nat.beq y 18 then prog_2_method_19_code else ⟨#[]⟩) else (bif Nat.beq y 17 then prog_2_method_18_code else ⟨#[]⟩)) else (bif Nat.beq y 16 then prog_2_method_17_code else ⟨#[]⟩)) else (bif Nat.ble 15 y then (bif Nat.beq y 15 then prog_2_method_16_code else ⟨#[]⟩) else (bif Nat.beq y 14 then prog_2_method_15_code else ⟨#[]⟩))) else (bif Nat.ble 11 y then (bif Nat.ble 12 y then (bif Nat.ble 13 y then (bif Nat.beq y 13 then prog_2_method_14_code else ⟨#[]⟩) else (bif Nat.beq y 12 then prog_2_method_13_code else ⟨#[]⟩)) else (bif Nat.beq y 11 then prog_2_method_12_code else ⟨#[]⟩)) else (bif Nat.ble 10 y then (bif Nat.beq y 10 then prog_2_method_11_code else ⟨#[]⟩) else (bif Nat.beq y 9 then prog_2_method_10_code else ⟨#[]⟩)))) else (bif Nat.ble 4 y then (bif Nat.ble 6 y then (bif Nat.ble 7 y then (bif Nat.ble 8 y then (bif Nat.beq y 8 then prog_2_method_9_code else ⟨#[]⟩) else (bif Nat.beq y 7 then prog_2_method_8_code else ⟨#[]⟩)) else (bif Nat.beq y 6 then prog_2_method_7_code else ⟨#[]⟩)) else (bif Nat.ble 5 y then (bif Nat.beq y 5 then prog_2_method_6_code else ⟨#[]⟩) else (bif Nat.beq y 4 then prog_2_method_5_code else ⟨#[]⟩))) else (bif Nat.ble 2 y then (bif Nat.ble 3 y then (bif Nat.beq y 3 then prog_2_method_4_code else ⟨#[]⟩) else (bif Nat.beq y 2 then prog_2_method_3_code else ⟨#[]⟩)) else (bif Nat.ble 1 y then (bif Nat.beq y 1 then prog_2_method_2_code else ⟨#[]⟩) else (bif Nat.beq y 0 then prog_2_method_1_code else ⟨#[]⟩)))))))))
def jxrt (y : Nat) : Option FieldType := match jxret y with
  | 0 => none
  | 1 => some .int
  | 2 => some .boolean
  | 3 => some .char
  | 4 => some .byte
  | _ => some .long
def jxgoodw : List Jvm.Cond := lw_tbl.filter goodWord
def jxisnest : Jvm.Cond → Bool
  | .methodLinkNest _ _ _ _ => true
  | _ => false
def jxnest : List Jvm.Cond := lw_tbl.filter jxisnest
def jxat (i : Nat) (w : Jvm.Cond) : Bool := decide (lw_tbl[i]? = some w) && goodWord w
def jxatn (i : Nat) (w : Jvm.Cond) : Bool := decide (lw_tbl[i]? = some w) && jxisnest w
theorem jxat_mem {i : Nat} {w : Jvm.Cond} (h : jxat i w = true) : w ∈ jxgoodw := by
  simp only [jxat, Bool.and_eq_true, decide_eq_true_eq] at h
  exact List.mem_filter.mpr ⟨List.mem_of_getElem? h.1, h.2⟩
theorem jxatn_mem {i : Nat} {w : Jvm.Cond} (h : jxatn i w = true) : w ∈ jxnest := by
  simp only [jxatn, Bool.and_eq_true, decide_eq_true_eq] at h
  exact List.mem_filter.mpr ⟨List.mem_of_getElem? h.1, h.2⟩
theorem jxfind_mem {α : Type} {k : Nat} {a : α} : ∀ {l : List (Nat × α)}, jxfind l k = some a → (k, a) ∈ l
  | [], h => by cases h
  | (j, b) :: l, h => by
    unfold jxfind at h
    cases hk : Nat.beq k j <;> rw [hk] at h
    · exact List.mem_cons_of_mem _ (jxfind_mem h)
    · have : k = j := Nat.eq_of_beq_eq_true hk
      subst this
      cases h
      exact List.mem_cons_self
/-- a check of a table, row by row -/
def jxall {α : Type} (T : List (List (Nat × α))) (f : Nat → Nat → α → Bool) : Bool := T.zipIdx.all (fun q => q.1.all (fun e => f q.2 e.1 e.2))
theorem jxall_at {α : Type} {T : List (List (Nat × α))} {f : Nat → Nat → α → Bool} (h : jxall T f = true) {own k : Nat} {a : α} (hf : jxfind2 T own k = some a) : f own k a = true := by
  unfold jxfind2 at hf
  split at hf
  · rename_i l hl
    have h1 := List.all_eq_true.mp h (l, own) (List.mem_zipIdx_iff_getElem?.mpr hl)
    exact List.all_eq_true.mp h1 (k, a) (jxfind_mem hf)
  · cases hf
theorem jxat_mk {i : Nat} {w : Jvm.Cond} (h : lw_tbl[i]? = some w) (g : goodWord w = true) : jxat i w = true := by simp only [jxat, h, g, decide_true, Bool.and_self]
theorem jxatn_mk {i : Nat} {w : Jvm.Cond} (h : lw_tbl[i]? = some w) (g : jxisnest w = true) : jxatn i w = true := by simp only [jxatn, h, g, decide_true, Bool.and_self]
theorem jxpc_r {A B : List Jvm.Cond} {n j : Nat} {w : Jvm.Cond} (hA : A.length = n) (h : B[j]? = some w) : (A ++ B)[n + j]? = some w := by
  rw [List.getElem?_append_right (by omega), show n + j - A.length = j by omega]
  exact h
theorem jxpc_l {A B : List Jvm.Cond} {j : Nat} {w : Jvm.Cond} (h : A[j]? = some w) : (A ++ B)[j]? = some w := by
  rw [List.getElem?_append_left (List.getElem?_eq_some_iff.mp h).1]
  exact h
theorem jxpl0 : (k2_sels lw_privs).length = 95 := by decide +kernel
theorem jxpc0 {j : Nat} {w : Jvm.Cond} (h : (k2_sels lw_privs)[j]? = some w) : lw_tbl[j]? = some w := jxpc_l h
theorem jxpl1 : tables_1_1.length = 240 := by decide +kernel
theorem jxpl2 : tables_1_2.length = 240 := by decide +kernel
theorem jxpl3 : tables_1_3.length = 240 := by decide +kernel
theorem jxpl4 : tables_1_4.length = 240 := by decide +kernel
theorem jxpl5 : tables_1_5.length = 240 := by decide +kernel
theorem jxpl6 : tables_1_6.length = 240 := by decide +kernel
theorem jxpl7 : tables_1_7.length = 240 := by decide +kernel
theorem jxpl8 : tables_1_8.length = 217 := by decide +kernel
theorem jxpc1 {j : Nat} {w : Jvm.Cond} (h : tables_1_1[j]? = some w) : lw_tbl[(95 + j)]? = some w := jxpc_r jxpl0 (jxpc_l h)
theorem jxpc2 {j : Nat} {w : Jvm.Cond} (h : tables_1_2[j]? = some w) : lw_tbl[(95 + (240 + j))]? = some w := jxpc_r jxpl0 (jxpc_r jxpl1 (jxpc_l h))
theorem jxpc3 {j : Nat} {w : Jvm.Cond} (h : tables_1_3[j]? = some w) : lw_tbl[(95 + (240 + (240 + j)))]? = some w := jxpc_r jxpl0 (jxpc_r jxpl1 (jxpc_r jxpl2 (jxpc_l h)))
theorem jxpc4 {j : Nat} {w : Jvm.Cond} (h : tables_1_4[j]? = some w) : lw_tbl[(95 + (240 + (240 + (240 + j))))]? = some w := jxpc_r jxpl0 (jxpc_r jxpl1 (jxpc_r jxpl2 (jxpc_r jxpl3 (jxpc_l h))))
theorem jxpc5 {j : Nat} {w : Jvm.Cond} (h : tables_1_5[j]? = some w) : lw_tbl[(95 + (240 + (240 + (240 + (240 + j)))))]? = some w := jxpc_r jxpl0 (jxpc_r jxpl1 (jxpc_r jxpl2 (jxpc_r jxpl3 (jxpc_r jxpl4 (jxpc_l h)))))
theorem jxpc6 {j : Nat} {w : Jvm.Cond} (h : tables_1_6[j]? = some w) : lw_tbl[(95 + (240 + (240 + (240 + (240 + (240 + j))))))]? = some w := jxpc_r jxpl0 (jxpc_r jxpl1 (jxpc_r jxpl2 (jxpc_r jxpl3 (jxpc_r jxpl4 (jxpc_r jxpl5 (jxpc_l h))))))
theorem jxpc7 {j : Nat} {w : Jvm.Cond} (h : tables_1_7[j]? = some w) : lw_tbl[(95 + (240 + (240 + (240 + (240 + (240 + (240 + j)))))))]? = some w := jxpc_r jxpl0 (jxpc_r jxpl1 (jxpc_r jxpl2 (jxpc_r jxpl3 (jxpc_r jxpl4 (jxpc_r jxpl5 (jxpc_r jxpl6 (jxpc_l h)))))))
theorem jxpc8 {j : Nat} {w : Jvm.Cond} (h : tables_1_8[j]? = some w) : lw_tbl[(95 + (240 + (240 + (240 + (240 + (240 + (240 + (240 + j))))))))]? = some w := jxpc_r jxpl0 (jxpc_r jxpl1 (jxpc_r jxpl2 (jxpc_r jxpl3 (jxpc_r jxpl4 (jxpc_r jxpl5 (jxpc_r jxpl6 (jxpc_r jxpl7 (h))))))))
def jxrowP {α : Type} (f : Nat → α → Bool) : List (Nat × α) → Prop
  | [] => True
  | e :: l => f e.1 e.2 = true ∧ jxrowP f l
def jxallP {α : Type} (f : Nat → Nat → α → Bool) : Nat → List (List (Nat × α)) → Prop
  | _, [] => True
  | o, l :: T => jxrowP (f o) l ∧ jxallP f (o + 1) T
theorem jxR_n {α : Type} {f : Nat → α → Bool} : jxrowP f [] := trivial
theorem jxR_c {α : Type} {f : Nat → α → Bool} {k : Nat} {a : α} {l : List (Nat × α)} (h : f k a = true) (h2 : jxrowP f l) : jxrowP f ((k, a) :: l) := ⟨h, h2⟩
theorem jxA_n {α : Type} {f : Nat → Nat → α → Bool} {o : Nat} : jxallP f o [] := trivial
theorem jxA_c {α : Type} {f : Nat → Nat → α → Bool} {o : Nat} {l : List (Nat × α)} {T : List (List (Nat × α))} (h : jxrowP (f o) l) (h2 : jxallP f (o + 1) T) : jxallP f o (l :: T) := ⟨h, h2⟩
theorem jxrow_all {α : Type} {f : Nat → α → Bool} : ∀ {l : List (Nat × α)}, jxrowP f l → (l.all (fun e => f e.1 e.2)) = true
  | [], _ => rfl
  | e :: l, h => by
    rw [List.all_cons, Bool.and_eq_true]
    exact ⟨h.1, jxrow_all h.2⟩
theorem jxall_of {α : Type} {f : Nat → Nat → α → Bool} : ∀ {T : List (List (Nat × α))} {o : Nat}, jxallP f o T → ((T.zipIdx o).all (fun q => q.1.all (fun e => f q.2 e.1 e.2))) = true
  | [], _, _ => rfl
  | l :: T, o, h => by
    rw [List.zipIdx_cons, List.all_cons, Bool.and_eq_true]
    exact ⟨jxrow_all h.1, jxall_of h.2⟩
def jxpF : List (List (Nat × Nat)) := [[(9, 230), (15, 231), (18, 232), (21, 233), (24, 234), (27, 235), (30, 236), (33, 237), (37, 238), (40, 239), (43, 240), (46, 241), (49, 242), (52, 243), (55, 244), (58, 229)], [(11, 436), (15, 437), (18, 438), (21, 439)], [(9, 309), (15, 310), (18, 311), (21, 312), (25, 313)], [(9, 149), (15, 150), (18, 151), (21, 152), (24, 153), (27, 154), (31, 155)], [(9, 332), (15, 333), (18, 334), (21, 335), (24, 336), (27, 337), (30, 338), (34, 339)], [(11, 366), (15, 367), (19, 368), (22, 369), (25, 370), (29, 371), (32, 372), (35, 373), (40, 374), (43, 375), (46, 376), (49, 364), (53, 365)], [(11, 213), (15, 214), (18, 215)], [(9, 284), (15, 285), (18, 286), (21, 287), (24, 288), (27, 289)], [(9, 129), (15, 130), (19, 131), (22, 132)], [(11, 411), (15, 412), (20, 413), (23, 414), (26, 415), (29, 416)], [(13, 183), (16, 184), (20, 185), (23, 186), (27, 187), (30, 180), (34, 181), (37, 182)], [(7, 449), (13, 450), (20, 451), (27, 452), (36, 453), (43, 454), (52, 455), (59, 456), (63, 457), (66, 458), (69, 459), (72, 460), (79, 461), (86, 462), (95, 463), (102, 464), (109, 465)], [(7, 1417), (13, 1419), (16, 1420), (19, 1421), (22, 1422), (25, 1423), (29, 1424), (32, 1426), (35, 1427), (38, 1428), (41, 1429), (44, 1430), (47, 1431), (50, 1432), (53, 1434), (56, 1435), (59, 1436), (62, 1437), (66, 1444), (69, 1445), (72, 1446), (75, 1447), (78, 1450), (81, 1452), (84, 1453), (87, 1454), (90, 1459), (93, 1461), (96, 1462), (100, 1463), (103, 1464), (106, 1466), (109, 1467), (112, 1468), (115, 1469), (118, 1470), (121, 1473), (124, 1475), (127, 1476), (130, 1477), (133, 1478), (136, 1479), (139, 1481), (142, 1482), (145, 1483), (148, 1485), (151, 1486), (154, 1487), (157, 1488), (160, 1489), (163, 1490), (166, 1492), (169, 1493), (180, 1418), (184, 1416), (192, 1438), (199, 1440), (202, 1439), (209, 1441), (216, 1443), (219, 1442), (222, 1448), (225, 1451), (228, 1449), (271, 1433), (285, 1425), (291, 1455), (295, 1456), (298, 1457), (341, 1458), (344, 1460), (363, 1465), (366, 1474), (369, 1472), (396, 1480), (399, 1471), (411, 1484), (424, 1491)], [], [], [(9, 1990), (15, 1991)], [], [], [], []]
def jxpL : List (List (Nat × Nat)) := [[(3, 228), (62, 555), (66, 570), (70, 1052), (74, 1053), (77, 562), (81, 566), (85, 909), (91, 1108), (95, 975), (98, 971), (102, 980), (107, 976), (111, 983)], [(5, 435), (25, 1326), (29, 1373), (33, 1335), (37, 1340), (43, 1341), (47, 1339), (52, 1361), (56, 1346), (60, 1350), (66, 1355), (70, 1358)], [(3, 308), (29, 1010), (35, 1011), (42, 1014), (46, 1017), (49, 1025), (57, 1032)], [(3, 148), (35, 535), (39, 1382), (42, 803)], [(3, 331), (37, 603), (41, 1255), (44, 594)], [(5, 362), (57, 1230), (61, 1150), (64, 1156), (67, 1170), (70, 1185), (73, 1210), (76, 1154), (82, 1155), (86, 1160), (89, 1161), (95, 1162), (98, 1166), (101, 1174), (105, 1178), (108, 1182), (111, 1189), (114, 1193), (119, 1199), (122, 1202), (125, 1206), (128, 1209), (134, 1214), (138, 1218)], [(3, 210), (25, 825), (30, 826), (34, 827), (38, 853), (41, 854), (45, 831), (49, 852), (53, 845), (56, 835), (59, 836), (62, 846), (72, 851), (78, 840)], [(3, 283), (30, 867), (36, 868), (40, 869), (43, 870), (47, 871), (50, 875), (54, 879), (58, 892)], [(3, 128), (25, 653), (28, 750), (32, 682), (37, 692), (41, 696), (45, 773)], [(3, 409), (33, 1283), (38, 1284), (42, 1298), (46, 1299), (50, 1291), (53, 1300), (56, 1301), (60, 1288), (64, 1290), (68, 1292), (72, 1293), (76, 1294), (80, 1314)], [(3, 177), (41, 649), (46, 657), (50, 661), (54, 746), (57, 776), (60, 777), (64, 781), (67, 785), (73, 665), (78, 678), (82, 742), (86, 669), (91, 673), (96, 734), (100, 738), (103, 751), (106, 755), (109, 766), (113, 769), (131, 795), (135, 799), (138, 804), (141, 808), (144, 813), (147, 812)], [(1, 120), (19, 125), (26, 145), (33, 174), (42, 207), (49, 225), (58, 280), (78, 305), (85, 328), (92, 359), (101, 406), (108, 432), (113, 505), (117, 515), (120, 508), (125, 523), (129, 531), (132, 539), (136, 543), (140, 586), (144, 590), (147, 595), (150, 547), (151, 551), (154, 558), (158, 574), (162, 578), (165, 582), (168, 599), (171, 607), (174, 611), (177, 615), (180, 620), (183, 624), (186, 628), (189, 636), (192, 644), (193, 645), (196, 791), (199, 821), (202, 859), (203, 863), (207, 880), (210, 901), (213, 958), (217, 905), (221, 917), (225, 1002), (228, 1006), (231, 913), (232, 942), (235, 922), (238, 1021), (242, 1028), (245, 1036), (248, 1040), (251, 888), (254, 926), (257, 930), (260, 934), (263, 884), (266, 893), (269, 897), (272, 921), (276, 938), (279, 946), (282, 950), (285, 954), (288, 962), (291, 963), (294, 967), (297, 986), (300, 1048), (303, 1061), (306, 1069), (309, 1070), (312, 1074), (315, 1075), (318, 1079), (321, 1087), (324, 1095), (327, 1096), (330, 1104), (333, 1113), (336, 1114), (339, 1118), (342, 1122), (345, 1130), (347, 1138), (350, 1146), (353, 1226), (356, 1238), (359, 1239), (362, 1243), (365, 1251), (368, 1260), (371, 1261), (372, 1262), (375, 1263), (378, 1267), (379, 1275), (382, 1279), (385, 1306), (388, 1310), (391, 1322), (394, 1331), (397, 1369), (400, 1378), (403, 1383), (406, 1387), (409, 1391), (410, 1395), (413, 1399), (416, 1403)], [(1, 1412), (172, 1413), (176, 1655), (187, 1662), (195, 1674), (205, 1690), (212, 1710), (231, 1714), (234, 1718), (237, 1702), (240, 1706), (243, 1722), (246, 1698), (250, 1726), (253, 1730), (256, 1686), (259, 1694), (262, 1742), (265, 1738), (268, 1750), (274, 1764), (278, 1760), (282, 1801), (288, 1757), (301, 1772), (305, 1797), (308, 1793), (311, 1805), (314, 1809), (317, 1825), (320, 1785), (323, 1789), (326, 1813), (329, 1781), (332, 1821), (335, 1829), (338, 1833), (353, 1845), (356, 1852), (360, 1860), (372, 1896), (375, 1900), (378, 1904), (381, 1915), (384, 1892), (387, 1908), (390, 1911), (393, 1918), (402, 1942), (405, 1934), (408, 1938), (414, 1958), (417, 1966), (421, 1978)], [], [], [(335, 686), (492, 700), (495, 704), (498, 715), (1059, 712)], [(9, 707)], [(48, 721), (67, 718), (71, 725), (414, 724)], [], [(9, 117), (12, 1409), (13, 501), (17, 1651), (18, 511), (22, 1658), (23, 518), (26, 1665), (27, 527), (31, 1946), (32, 616), (36, 1670), (37, 632), (40, 1678), (41, 640), (44, 1682), (45, 787), (49, 1734), (50, 817), (54, 1746), (55, 855), (58, 1817), (59, 990), (62, 1777), (63, 994), (66, 1837), (67, 998), (70, 1841), (71, 1044), (75, 1856), (76, 1057), (79, 1864), (80, 1065), (83, 1868), (84, 1083), (87, 1753), (88, 1091), (91, 1872), (92, 1100), (95, 1876), (96, 1109), (99, 1768), (100, 1126), (103, 1880), (104, 1134), (107, 1884), (108, 1142), (111, 1888), (112, 1222), (115, 1922), (116, 1234), (119, 1926), (120, 1247), (123, 1930), (124, 1256), (127, 1950), (128, 1271), (131, 1954), (132, 1302), (136, 1962), (137, 1318), (141, 1970), (142, 1327), (145, 1974), (146, 1365), (149, 1982), (150, 1374), (153, 1986)]]
def jxpC : List (List (Nat × Nat)) := [[], [], [], [], [], [(38, 363)], [], [], [], [(18, 410)], [(11, 178)], [(17, 123), (24, 143), (31, 172), (40, 205), (47, 223), (56, 278), (76, 303), (83, 326), (90, 357), (99, 404), (106, 430)], [], [], [], [], [], [], [], [(7, 115), (10, 1407)]]
def jxpK : List (List (Nat × Nat)) := [[], [(50, 1345), (64, 1354)], [(38, 1012), (40, 1013), (53, 1026), (55, 1027)], [], [], [], [], [], [], [], [], [(124, 522)], [(191, 1669), (294, 1776), (347, 1851), (349, 1849), (351, 1850)], [(265, 1196), (266, 1197), (267, 1198)], [], [], [], [], [], []]
def jxpS : List (List (Nat × (Nat × String × String × String))) := [[], [], [], [], [], [], [(22, (211, "CardClub$RuleBook", "WITHOUT", "[I")), (66, (847, "CardClub$RuleBook", "LEAST", "[I")), (69, (849, "CardClub$RuleBook", "MOST", "[I"))], [], [], [], [], [], [], [], [], [(38, (690, "java/lang/String", "COMPACT_STRINGS", "Z")), (1053, (710, "jdk/internal/util/Preconditions", "SIOOBE_FORMATTER", "Ljava/util/function/BiFunction;"))], [], [], [], []]
def jxisref : Option FieldType → Bool
  | some (.object _) => true
  | some (.array _) => true
  | _ => false
def jxfit (fty : Nat) (t : Option FieldType) : Bool := match fty % 10 with
  | 0 => decide (t = some .int)
  | 1 => decide (t = some .long)
  | 2 => jxisref t
  | 3 => decide (t = some .boolean)
  | _ => false
def jxchkF (own idx : Nat) (a : Nat × Nat × Nat) : Bool := match jxfind2 jxpF own idx with
  | none => false
  | some i => bif Nat.beq a.1 1000 then (bif Nat.beq a.2.1 0 then jxat i (.fieldLink (jxcn own) idx "java/lang/String" "value" "[B") else jxat i (.fieldLink (jxcn own) idx "java/lang/String" "coder" "B")) else
    match vwCl[a.1]? with
    | none => false
    | some q => decide (a.2.1 < q.2.2) && jxat i (.fieldLink (jxcn own) idx (q.2.1 a.2.1).1 (q.2.1 a.2.1).2.1 (q.2.1 a.2.1).2.2.1) && jxfit a.2.2 (parseFieldDescriptor (q.2.1 a.2.1).2.2.1) && ((q.2.1 a.2.1).2.2.2 == Nat.ble 10 a.2.2) && decide ((q.2.1 a.2.1).1 = q.1) && (!(Nat.ble 10 a.2.2) || decide (q.1 = jxcn own))
theorem jxF_mk {own idx i ci sl fty : Nat} {q : vw_C} {ty : FieldType} (h1 : jxfind2 jxpF own idx = some i) (h0 : Nat.beq ci 1000 = false) (hq : vwCl[ci]? = some q) (hl : sl < q.2.2) (hw : jxat i (.fieldLink (jxcn own) idx (q.2.1 sl).1 (q.2.1 sl).2.1 (q.2.1 sl).2.2.1) = true) (hp : parseFieldDescriptor (q.2.1 sl).2.2.1 = some ty) (hf : jxfit fty (some ty) = true) (hb : (q.2.1 sl).2.2.2 = Nat.ble 10 fty) (hn : (q.2.1 sl).1 = q.1) (ho : Nat.ble 10 fty = false ∨ q.1 = jxcn own) : jxchkF own idx (ci, sl, fty) = true := by
  unfold jxchkF
  rw [h1]
  dsimp only
  rw [h0, hq]
  dsimp only
  rw [hn] at hw ⊢
  simp only [cond_false, hw, hp, hf, hb, hn, hl, decide_true, beq_self_eq_true, Bool.and_true, Bool.true_and]
  rcases ho with ho | ho
  · rw [ho]; rfl
  · rw [decide_eq_true ho, Bool.or_true]
theorem jxF_v {own idx i fty : Nat} (h1 : jxfind2 jxpF own idx = some i) (hw : jxat i (.fieldLink (jxcn own) idx "java/lang/String" "value" "[B") = true) : jxchkF own idx (1000, 0, fty) = true := by
  unfold jxchkF
  rw [h1]
  exact hw
theorem jxF_k {own idx i sl fty : Nat} (h1 : jxfind2 jxpF own idx = some i) (hs : Nat.beq sl 0 = false) (hw : jxat i (.fieldLink (jxcn own) idx "java/lang/String" "coder" "B") = true) : jxchkF own idx (1000, sl, fty) = true := by
  unfold jxchkF
  rw [h1]
  dsimp only
  rw [hs]
  exact hw
set_option maxRecDepth 100000 in
theorem jxchkF_ok_0 : jxrowP (jxchkF 0) (jxfl.getD 0 []) := jxR_c (jxF_mk rfl rfl (q := (RX0, TX0, 16)) rfl (by decide) (jxat_mk (jxpc1 (j := 135) rfl) rfl) (tyX0_ok 1 (by decide)) rfl rfl rfl (Or.inr rfl))
    (jxR_c (jxF_mk rfl rfl (q := (RX0, TX0, 16)) rfl (by decide) (jxat_mk (jxpc1 (j := 136) rfl) rfl) (tyX0_ok 2 (by decide)) rfl rfl rfl (Or.inr rfl))
    (jxR_c (jxF_mk rfl rfl (q := (RX0, TX0, 16)) rfl (by decide) (jxat_mk (jxpc1 (j := 137) rfl) rfl) (tyX0_ok 3 (by decide)) rfl rfl rfl (Or.inr rfl))
    (jxR_c (jxF_mk rfl rfl (q := (RX0, TX0, 16)) rfl (by decide) (jxat_mk (jxpc1 (j := 138) rfl) rfl) (tyX0_ok 4 (by decide)) rfl rfl rfl (Or.inr rfl))
    (jxR_c (jxF_mk rfl rfl (q := (RX0, TX0, 16)) rfl (by decide) (jxat_mk (jxpc1 (j := 139) rfl) rfl) (tyX0_ok 5 (by decide)) rfl rfl rfl (Or.inr rfl))
    (jxR_c (jxF_mk rfl rfl (q := (RX0, TX0, 16)) rfl (by decide) (jxat_mk (jxpc1 (j := 140) rfl) rfl) (tyX0_ok 6 (by decide)) rfl rfl rfl (Or.inr rfl))
    (jxR_c (jxF_mk rfl rfl (q := (RX0, TX0, 16)) rfl (by decide) (jxat_mk (jxpc1 (j := 141) rfl) rfl) (tyX0_ok 7 (by decide)) rfl rfl rfl (Or.inr rfl))
    (jxR_c (jxF_mk rfl rfl (q := (RX0, TX0, 16)) rfl (by decide) (jxat_mk (jxpc1 (j := 142) rfl) rfl) (tyX0_ok 8 (by decide)) rfl rfl rfl (Or.inl rfl))
    (jxR_c (jxF_mk rfl rfl (q := (RX0, TX0, 16)) rfl (by decide) (jxat_mk (jxpc1 (j := 143) rfl) rfl) (tyX0_ok 9 (by decide)) rfl rfl rfl (Or.inr rfl))
    (jxR_c (jxF_mk rfl rfl (q := (RX0, TX0, 16)) rfl (by decide) (jxat_mk (jxpc1 (j := 144) rfl) rfl) (tyX0_ok 10 (by decide)) rfl rfl rfl (Or.inr rfl))
    (jxR_c (jxF_mk rfl rfl (q := (RX0, TX0, 16)) rfl (by decide) (jxat_mk (jxpc1 (j := 145) rfl) rfl) (tyX0_ok 11 (by decide)) rfl rfl rfl (Or.inr rfl))
    (jxR_c (jxF_mk rfl rfl (q := (RX0, TX0, 16)) rfl (by decide) (jxat_mk (jxpc1 (j := 146) rfl) rfl) (tyX0_ok 12 (by decide)) rfl rfl rfl (Or.inl rfl))
    (jxR_c (jxF_mk rfl rfl (q := (RX0, TX0, 16)) rfl (by decide) (jxat_mk (jxpc1 (j := 147) rfl) rfl) (tyX0_ok 13 (by decide)) rfl rfl rfl (Or.inl rfl))
    (jxR_c (jxF_mk rfl rfl (q := (RX0, TX0, 16)) rfl (by decide) (jxat_mk (jxpc1 (j := 148) rfl) rfl) (tyX0_ok 14 (by decide)) rfl rfl rfl (Or.inl rfl))
    (jxR_c (jxF_mk rfl rfl (q := (RX0, TX0, 16)) rfl (by decide) (jxat_mk (jxpc1 (j := 149) rfl) rfl) (tyX0_ok 15 (by decide)) rfl rfl rfl (Or.inl rfl))
    (jxR_c (jxF_mk rfl rfl (q := (RX0, TX0, 16)) rfl (by decide) (jxat_mk (jxpc1 (j := 134) rfl) rfl) (tyX0_ok 0 (by decide)) rfl rfl rfl (Or.inr rfl))
    (jxR_n))))))))))))))))
set_option maxRecDepth 100000 in
theorem jxchkF_ok_1 : jxrowP (jxchkF 1) (jxfl.getD 1 []) := jxR_c (jxF_mk rfl rfl (q := (RX1, TX1, 4)) rfl (by decide) (jxat_mk (jxpc2 (j := 101) rfl) rfl) (tyX1_ok 0 (by decide)) rfl rfl rfl (Or.inr rfl))
    (jxR_c (jxF_mk rfl rfl (q := (RX1, TX1, 4)) rfl (by decide) (jxat_mk (jxpc2 (j := 102) rfl) rfl) (tyX1_ok 1 (by decide)) rfl rfl rfl (Or.inr rfl))
    (jxR_c (jxF_mk rfl rfl (q := (RX1, TX1, 4)) rfl (by decide) (jxat_mk (jxpc2 (j := 103) rfl) rfl) (tyX1_ok 2 (by decide)) rfl rfl rfl (Or.inr rfl))
    (jxR_c (jxF_mk rfl rfl (q := (RX1, TX1, 4)) rfl (by decide) (jxat_mk (jxpc2 (j := 104) rfl) rfl) (tyX1_ok 3 (by decide)) rfl rfl rfl (Or.inr rfl))
    (jxR_n))))
set_option maxRecDepth 100000 in
theorem jxchkF_ok_2 : jxrowP (jxchkF 2) (jxfl.getD 2 []) := jxR_c (jxF_mk rfl rfl (q := (RX2, TX2, 5)) rfl (by decide) (jxat_mk (jxpc1 (j := 214) rfl) rfl) (tyX2_ok 0 (by decide)) rfl rfl rfl (Or.inr rfl))
    (jxR_c (jxF_mk rfl rfl (q := (RX2, TX2, 5)) rfl (by decide) (jxat_mk (jxpc1 (j := 215) rfl) rfl) (tyX2_ok 1 (by decide)) rfl rfl rfl (Or.inr rfl))
    (jxR_c (jxF_mk rfl rfl (q := (RX2, TX2, 5)) rfl (by decide) (jxat_mk (jxpc1 (j := 216) rfl) rfl) (tyX2_ok 2 (by decide)) rfl rfl rfl (Or.inr rfl))
    (jxR_c (jxF_mk rfl rfl (q := (RX2, TX2, 5)) rfl (by decide) (jxat_mk (jxpc1 (j := 217) rfl) rfl) (tyX2_ok 3 (by decide)) rfl rfl rfl (Or.inl rfl))
    (jxR_c (jxF_mk rfl rfl (q := (RX2, TX2, 5)) rfl (by decide) (jxat_mk (jxpc1 (j := 218) rfl) rfl) (tyX2_ok 4 (by decide)) rfl rfl rfl (Or.inl rfl))
    (jxR_n)))))
set_option maxRecDepth 100000 in
theorem jxchkF_ok_3 : jxrowP (jxchkF 3) (jxfl.getD 3 []) := jxR_c (jxF_mk rfl rfl (q := (RX3, TX3, 7)) rfl (by decide) (jxat_mk (jxpc1 (j := 54) rfl) rfl) (tyX3_ok 0 (by decide)) rfl rfl rfl (Or.inr rfl))
    (jxR_c (jxF_mk rfl rfl (q := (RX3, TX3, 7)) rfl (by decide) (jxat_mk (jxpc1 (j := 55) rfl) rfl) (tyX3_ok 1 (by decide)) rfl rfl rfl (Or.inr rfl))
    (jxR_c (jxF_mk rfl rfl (q := (RX3, TX3, 7)) rfl (by decide) (jxat_mk (jxpc1 (j := 56) rfl) rfl) (tyX3_ok 2 (by decide)) rfl rfl rfl (Or.inr rfl))
    (jxR_c (jxF_mk rfl rfl (q := (RX3, TX3, 7)) rfl (by decide) (jxat_mk (jxpc1 (j := 57) rfl) rfl) (tyX3_ok 3 (by decide)) rfl rfl rfl (Or.inr rfl))
    (jxR_c (jxF_mk rfl rfl (q := (RX3, TX3, 7)) rfl (by decide) (jxat_mk (jxpc1 (j := 58) rfl) rfl) (tyX3_ok 4 (by decide)) rfl rfl rfl (Or.inr rfl))
    (jxR_c (jxF_mk rfl rfl (q := (RX3, TX3, 7)) rfl (by decide) (jxat_mk (jxpc1 (j := 59) rfl) rfl) (tyX3_ok 5 (by decide)) rfl rfl rfl (Or.inr rfl))
    (jxR_c (jxF_mk rfl rfl (q := (RX3, TX3, 7)) rfl (by decide) (jxat_mk (jxpc1 (j := 60) rfl) rfl) (tyX3_ok 6 (by decide)) rfl rfl rfl (Or.inl rfl))
    (jxR_n)))))))
set_option maxRecDepth 100000 in
theorem jxchkF_ok_4 : jxrowP (jxchkF 4) (jxfl.getD 4 []) := jxR_c (jxF_mk rfl rfl (q := (RX4, TX4, 8)) rfl (by decide) (jxat_mk (jxpc1 (j := 237) rfl) rfl) (tyX4_ok 0 (by decide)) rfl rfl rfl (Or.inr rfl))
    (jxR_c (jxF_mk rfl rfl (q := (RX4, TX4, 8)) rfl (by decide) (jxat_mk (jxpc1 (j := 238) rfl) rfl) (tyX4_ok 1 (by decide)) rfl rfl rfl (Or.inr rfl))
    (jxR_c (jxF_mk rfl rfl (q := (RX4, TX4, 8)) rfl (by decide) (jxat_mk (jxpc1 (j := 239) rfl) rfl) (tyX4_ok 2 (by decide)) rfl rfl rfl (Or.inr rfl))
    (jxR_c (jxF_mk rfl rfl (q := (RX4, TX4, 8)) rfl (by decide) (jxat_mk (jxpc2 (j := 0) rfl) rfl) (tyX4_ok 3 (by decide)) rfl rfl rfl (Or.inr rfl))
    (jxR_c (jxF_mk rfl rfl (q := (RX4, TX4, 8)) rfl (by decide) (jxat_mk (jxpc2 (j := 1) rfl) rfl) (tyX4_ok 4 (by decide)) rfl rfl rfl (Or.inr rfl))
    (jxR_c (jxF_mk rfl rfl (q := (RX4, TX4, 8)) rfl (by decide) (jxat_mk (jxpc2 (j := 2) rfl) rfl) (tyX4_ok 5 (by decide)) rfl rfl rfl (Or.inr rfl))
    (jxR_c (jxF_mk rfl rfl (q := (RX4, TX4, 8)) rfl (by decide) (jxat_mk (jxpc2 (j := 3) rfl) rfl) (tyX4_ok 6 (by decide)) rfl rfl rfl (Or.inl rfl))
    (jxR_c (jxF_mk rfl rfl (q := (RX4, TX4, 8)) rfl (by decide) (jxat_mk (jxpc2 (j := 4) rfl) rfl) (tyX4_ok 7 (by decide)) rfl rfl rfl (Or.inl rfl))
    (jxR_n))))))))
set_option maxRecDepth 100000 in
theorem jxchkF_ok_5 : jxrowP (jxchkF 5) (jxfl.getD 5 []) := jxR_c (jxF_mk rfl rfl (q := (RX5, TX5, 13)) rfl (by decide) (jxat_mk (jxpc2 (j := 31) rfl) rfl) (tyX5_ok 2 (by decide)) rfl rfl rfl (Or.inr rfl))
    (jxR_c (jxF_mk rfl rfl (q := (RX5, TX5, 13)) rfl (by decide) (jxat_mk (jxpc2 (j := 32) rfl) rfl) (tyX5_ok 3 (by decide)) rfl rfl rfl (Or.inl rfl))
    (jxR_c (jxF_mk rfl rfl (q := (RX5, TX5, 13)) rfl (by decide) (jxat_mk (jxpc2 (j := 33) rfl) rfl) (tyX5_ok 4 (by decide)) rfl rfl rfl (Or.inr rfl))
    (jxR_c (jxF_mk rfl rfl (q := (RX5, TX5, 13)) rfl (by decide) (jxat_mk (jxpc2 (j := 34) rfl) rfl) (tyX5_ok 5 (by decide)) rfl rfl rfl (Or.inr rfl))
    (jxR_c (jxF_mk rfl rfl (q := (RX5, TX5, 13)) rfl (by decide) (jxat_mk (jxpc2 (j := 35) rfl) rfl) (tyX5_ok 6 (by decide)) rfl rfl rfl (Or.inr rfl))
    (jxR_c (jxF_mk rfl rfl (q := (RX5, TX5, 13)) rfl (by decide) (jxat_mk (jxpc2 (j := 36) rfl) rfl) (tyX5_ok 7 (by decide)) rfl rfl rfl (Or.inr rfl))
    (jxR_c (jxF_mk rfl rfl (q := (RX5, TX5, 13)) rfl (by decide) (jxat_mk (jxpc2 (j := 37) rfl) rfl) (tyX5_ok 8 (by decide)) rfl rfl rfl (Or.inl rfl))
    (jxR_c (jxF_mk rfl rfl (q := (RX5, TX5, 13)) rfl (by decide) (jxat_mk (jxpc2 (j := 38) rfl) rfl) (tyX5_ok 9 (by decide)) rfl rfl rfl (Or.inr rfl))
    (jxR_c (jxF_mk rfl rfl (q := (RX5, TX5, 13)) rfl (by decide) (jxat_mk (jxpc2 (j := 39) rfl) rfl) (tyX5_ok 10 (by decide)) rfl rfl rfl (Or.inr rfl))
    (jxR_c (jxF_mk rfl rfl (q := (RX5, TX5, 13)) rfl (by decide) (jxat_mk (jxpc2 (j := 40) rfl) rfl) (tyX5_ok 11 (by decide)) rfl rfl rfl (Or.inr rfl))
    (jxR_c (jxF_mk rfl rfl (q := (RX5, TX5, 13)) rfl (by decide) (jxat_mk (jxpc2 (j := 41) rfl) rfl) (tyX5_ok 12 (by decide)) rfl rfl rfl (Or.inl rfl))
    (jxR_c (jxF_mk rfl rfl (q := (RX5, TX5, 13)) rfl (by decide) (jxat_mk (jxpc2 (j := 29) rfl) rfl) (tyX5_ok 0 (by decide)) rfl rfl rfl (Or.inr rfl))
    (jxR_c (jxF_mk rfl rfl (q := (RX5, TX5, 13)) rfl (by decide) (jxat_mk (jxpc2 (j := 30) rfl) rfl) (tyX5_ok 1 (by decide)) rfl rfl rfl (Or.inr rfl))
    (jxR_n)))))))))))))
set_option maxRecDepth 100000 in
theorem jxchkF_ok_6 : jxrowP (jxchkF 6) (jxfl.getD 6 []) := jxR_c (jxF_mk rfl rfl (q := (RX6, TX6, 3)) rfl (by decide) (jxat_mk (jxpc1 (j := 118) rfl) rfl) (tyX6_ok 0 (by decide)) rfl rfl rfl (Or.inr rfl))
    (jxR_c (jxF_mk rfl rfl (q := (RX6, TX6, 3)) rfl (by decide) (jxat_mk (jxpc1 (j := 119) rfl) rfl) (tyX6_ok 1 (by decide)) rfl rfl rfl (Or.inr rfl))
    (jxR_c (jxF_mk rfl rfl (q := (RX6, TX6, 3)) rfl (by decide) (jxat_mk (jxpc1 (j := 120) rfl) rfl) (tyX6_ok 2 (by decide)) rfl rfl rfl (Or.inl rfl))
    (jxR_n)))
set_option maxRecDepth 100000 in
theorem jxchkF_ok_7 : jxrowP (jxchkF 7) (jxfl.getD 7 []) := jxR_c (jxF_mk rfl rfl (q := (RX7, TX7, 6)) rfl (by decide) (jxat_mk (jxpc1 (j := 189) rfl) rfl) (tyX7_ok 0 (by decide)) rfl rfl rfl (Or.inr rfl))
    (jxR_c (jxF_mk rfl rfl (q := (RX7, TX7, 6)) rfl (by decide) (jxat_mk (jxpc1 (j := 190) rfl) rfl) (tyX7_ok 1 (by decide)) rfl rfl rfl (Or.inr rfl))
    (jxR_c (jxF_mk rfl rfl (q := (RX7, TX7, 6)) rfl (by decide) (jxat_mk (jxpc1 (j := 191) rfl) rfl) (tyX7_ok 2 (by decide)) rfl rfl rfl (Or.inr rfl))
    (jxR_c (jxF_mk rfl rfl (q := (RX7, TX7, 6)) rfl (by decide) (jxat_mk (jxpc1 (j := 192) rfl) rfl) (tyX7_ok 3 (by decide)) rfl rfl rfl (Or.inr rfl))
    (jxR_c (jxF_mk rfl rfl (q := (RX7, TX7, 6)) rfl (by decide) (jxat_mk (jxpc1 (j := 193) rfl) rfl) (tyX7_ok 4 (by decide)) rfl rfl rfl (Or.inr rfl))
    (jxR_c (jxF_mk rfl rfl (q := (RX7, TX7, 6)) rfl (by decide) (jxat_mk (jxpc1 (j := 194) rfl) rfl) (tyX7_ok 5 (by decide)) rfl rfl rfl (Or.inr rfl))
    (jxR_n))))))
set_option maxRecDepth 100000 in
theorem jxchkF_ok_8 : jxrowP (jxchkF 8) (jxfl.getD 8 []) := jxR_c (jxF_mk rfl rfl (q := (RX8, TX8, 4)) rfl (by decide) (jxat_mk (jxpc1 (j := 34) rfl) rfl) (tyX8_ok 0 (by decide)) rfl rfl rfl (Or.inr rfl))
    (jxR_c (jxF_mk rfl rfl (q := (RX8, TX8, 4)) rfl (by decide) (jxat_mk (jxpc1 (j := 35) rfl) rfl) (tyX8_ok 1 (by decide)) rfl rfl rfl (Or.inl rfl))
    (jxR_c (jxF_mk rfl rfl (q := (RX8, TX8, 4)) rfl (by decide) (jxat_mk (jxpc1 (j := 36) rfl) rfl) (tyX8_ok 2 (by decide)) rfl rfl rfl (Or.inl rfl))
    (jxR_c (jxF_mk rfl rfl (q := (RX8, TX8, 4)) rfl (by decide) (jxat_mk (jxpc1 (j := 37) rfl) rfl) (tyX8_ok 3 (by decide)) rfl rfl rfl (Or.inl rfl))
    (jxR_n))))
set_option maxRecDepth 100000 in
theorem jxchkF_ok_9 : jxrowP (jxchkF 9) (jxfl.getD 9 []) := jxR_c (jxF_mk rfl rfl (q := (RX9, TX9, 6)) rfl (by decide) (jxat_mk (jxpc2 (j := 76) rfl) rfl) (tyX9_ok 0 (by decide)) rfl rfl rfl (Or.inr rfl))
    (jxR_c (jxF_mk rfl rfl (q := (RX9, TX9, 6)) rfl (by decide) (jxat_mk (jxpc2 (j := 77) rfl) rfl) (tyX9_ok 1 (by decide)) rfl rfl rfl (Or.inr rfl))
    (jxR_c (jxF_mk rfl rfl (q := (RX9, TX9, 6)) rfl (by decide) (jxat_mk (jxpc2 (j := 78) rfl) rfl) (tyX9_ok 2 (by decide)) rfl rfl rfl (Or.inr rfl))
    (jxR_c (jxF_mk rfl rfl (q := (RX9, TX9, 6)) rfl (by decide) (jxat_mk (jxpc2 (j := 79) rfl) rfl) (tyX9_ok 3 (by decide)) rfl rfl rfl (Or.inr rfl))
    (jxR_c (jxF_mk rfl rfl (q := (RX9, TX9, 6)) rfl (by decide) (jxat_mk (jxpc2 (j := 80) rfl) rfl) (tyX9_ok 4 (by decide)) rfl rfl rfl (Or.inr rfl))
    (jxR_c (jxF_mk rfl rfl (q := (RX9, TX9, 6)) rfl (by decide) (jxat_mk (jxpc2 (j := 81) rfl) rfl) (tyX9_ok 5 (by decide)) rfl rfl rfl (Or.inl rfl))
    (jxR_n))))))
set_option maxRecDepth 100000 in
theorem jxchkF_ok_10 : jxrowP (jxchkF 10) (jxfl.getD 10 []) := jxR_c (jxF_mk rfl rfl (q := (RX10, TX10, 8)) rfl (by decide) (jxat_mk (jxpc1 (j := 88) rfl) rfl) (tyX10_ok 3 (by decide)) rfl rfl rfl (Or.inr rfl))
    (jxR_c (jxF_mk rfl rfl (q := (RX10, TX10, 8)) rfl (by decide) (jxat_mk (jxpc1 (j := 89) rfl) rfl) (tyX10_ok 4 (by decide)) rfl rfl rfl (Or.inr rfl))
    (jxR_c (jxF_mk rfl rfl (q := (RX10, TX10, 8)) rfl (by decide) (jxat_mk (jxpc1 (j := 90) rfl) rfl) (tyX10_ok 5 (by decide)) rfl rfl rfl (Or.inr rfl))
    (jxR_c (jxF_mk rfl rfl (q := (RX10, TX10, 8)) rfl (by decide) (jxat_mk (jxpc1 (j := 91) rfl) rfl) (tyX10_ok 6 (by decide)) rfl rfl rfl (Or.inl rfl))
    (jxR_c (jxF_mk rfl rfl (q := (RX10, TX10, 8)) rfl (by decide) (jxat_mk (jxpc1 (j := 92) rfl) rfl) (tyX10_ok 7 (by decide)) rfl rfl rfl (Or.inl rfl))
    (jxR_c (jxF_mk rfl rfl (q := (RX10, TX10, 8)) rfl (by decide) (jxat_mk (jxpc1 (j := 85) rfl) rfl) (tyX10_ok 0 (by decide)) rfl rfl rfl (Or.inr rfl))
    (jxR_c (jxF_mk rfl rfl (q := (RX10, TX10, 8)) rfl (by decide) (jxat_mk (jxpc1 (j := 86) rfl) rfl) (tyX10_ok 1 (by decide)) rfl rfl rfl (Or.inr rfl))
    (jxR_c (jxF_mk rfl rfl (q := (RX10, TX10, 8)) rfl (by decide) (jxat_mk (jxpc1 (j := 87) rfl) rfl) (tyX10_ok 2 (by decide)) rfl rfl rfl (Or.inr rfl))
    (jxR_n))))))))
set_option maxRecDepth 100000 in
theorem jxchkF_ok_11 : jxrowP (jxchkF 11) (jxfl.getD 11 []) := jxR_c (jxF_mk rfl rfl (q := (RX11, TX11, 17)) rfl (by decide) (jxat_mk (jxpc2 (j := 114) rfl) rfl) (tyX11_ok 0 (by decide)) rfl rfl rfl (Or.inl rfl))
    (jxR_c (jxF_mk rfl rfl (q := (RX11, TX11, 17)) rfl (by decide) (jxat_mk (jxpc2 (j := 115) rfl) rfl) (tyX11_ok 1 (by decide)) rfl rfl rfl (Or.inr rfl))
    (jxR_c (jxF_mk rfl rfl (q := (RX11, TX11, 17)) rfl (by decide) (jxat_mk (jxpc2 (j := 116) rfl) rfl) (tyX11_ok 2 (by decide)) rfl rfl rfl (Or.inr rfl))
    (jxR_c (jxF_mk rfl rfl (q := (RX11, TX11, 17)) rfl (by decide) (jxat_mk (jxpc2 (j := 117) rfl) rfl) (tyX11_ok 3 (by decide)) rfl rfl rfl (Or.inr rfl))
    (jxR_c (jxF_mk rfl rfl (q := (RX11, TX11, 17)) rfl (by decide) (jxat_mk (jxpc2 (j := 118) rfl) rfl) (tyX11_ok 4 (by decide)) rfl rfl rfl (Or.inr rfl))
    (jxR_c (jxF_mk rfl rfl (q := (RX11, TX11, 17)) rfl (by decide) (jxat_mk (jxpc2 (j := 119) rfl) rfl) (tyX11_ok 5 (by decide)) rfl rfl rfl (Or.inr rfl))
    (jxR_c (jxF_mk rfl rfl (q := (RX11, TX11, 17)) rfl (by decide) (jxat_mk (jxpc2 (j := 120) rfl) rfl) (tyX11_ok 6 (by decide)) rfl rfl rfl (Or.inr rfl))
    (jxR_c (jxF_mk rfl rfl (q := (RX11, TX11, 17)) rfl (by decide) (jxat_mk (jxpc2 (j := 121) rfl) rfl) (tyX11_ok 7 (by decide)) rfl rfl rfl (Or.inr rfl))
    (jxR_c (jxF_mk rfl rfl (q := (RX11, TX11, 17)) rfl (by decide) (jxat_mk (jxpc2 (j := 122) rfl) rfl) (tyX11_ok 8 (by decide)) rfl rfl rfl (Or.inr rfl))
    (jxR_c (jxF_mk rfl rfl (q := (RX11, TX11, 17)) rfl (by decide) (jxat_mk (jxpc2 (j := 123) rfl) rfl) (tyX11_ok 9 (by decide)) rfl rfl rfl (Or.inl rfl))
    (jxR_c (jxF_mk rfl rfl (q := (RX11, TX11, 17)) rfl (by decide) (jxat_mk (jxpc2 (j := 124) rfl) rfl) (tyX11_ok 10 (by decide)) rfl rfl rfl (Or.inr rfl))
    (jxR_c (jxF_mk rfl rfl (q := (RX11, TX11, 17)) rfl (by decide) (jxat_mk (jxpc2 (j := 125) rfl) rfl) (tyX11_ok 11 (by decide)) rfl rfl rfl (Or.inr rfl))
    (jxR_c (jxF_mk rfl rfl (q := (RX11, TX11, 17)) rfl (by decide) (jxat_mk (jxpc2 (j := 126) rfl) rfl) (tyX11_ok 12 (by decide)) rfl rfl rfl (Or.inr rfl))
    (jxR_c (jxF_mk rfl rfl (q := (RX11, TX11, 17)) rfl (by decide) (jxat_mk (jxpc2 (j := 127) rfl) rfl) (tyX11_ok 13 (by decide)) rfl rfl rfl (Or.inr rfl))
    (jxR_c (jxF_mk rfl rfl (q := (RX11, TX11, 17)) rfl (by decide) (jxat_mk (jxpc2 (j := 128) rfl) rfl) (tyX11_ok 14 (by decide)) rfl rfl rfl (Or.inr rfl))
    (jxR_c (jxF_mk rfl rfl (q := (RX11, TX11, 17)) rfl (by decide) (jxat_mk (jxpc2 (j := 129) rfl) rfl) (tyX11_ok 15 (by decide)) rfl rfl rfl (Or.inr rfl))
    (jxR_c (jxF_mk rfl rfl (q := (RX11, TX11, 17)) rfl (by decide) (jxat_mk (jxpc2 (j := 130) rfl) rfl) (tyX11_ok 16 (by decide)) rfl rfl rfl (Or.inr rfl))
    (jxR_n)))))))))))))))))
set_option maxRecDepth 100000 in
theorem jxchkF_ok_12 : jxrowP (jxchkF 12) (jxfl.getD 12 []) := jxR_c (jxF_mk rfl rfl (q := (RX12, TX12, 78)) rfl (by decide) (jxat_mk (jxpc6 (j := 122) rfl) rfl) (tyX12_ok 1 (by decide)) rfl rfl rfl (Or.inr rfl))
    (jxR_c (jxF_mk rfl rfl (q := (RX12, TX12, 78)) rfl (by decide) (jxat_mk (jxpc6 (j := 124) rfl) rfl) (tyX12_ok 3 (by decide)) rfl rfl rfl (Or.inr rfl))
    (jxR_c (jxF_mk rfl rfl (q := (RX12, TX12, 78)) rfl (by decide) (jxat_mk (jxpc6 (j := 125) rfl) rfl) (tyX12_ok 4 (by decide)) rfl rfl rfl (Or.inr rfl))
    (jxR_c (jxF_mk rfl rfl (q := (RX12, TX12, 78)) rfl (by decide) (jxat_mk (jxpc6 (j := 126) rfl) rfl) (tyX12_ok 5 (by decide)) rfl rfl rfl (Or.inr rfl))
    (jxR_c (jxF_mk rfl rfl (q := (RX12, TX12, 78)) rfl (by decide) (jxat_mk (jxpc6 (j := 127) rfl) rfl) (tyX12_ok 6 (by decide)) rfl rfl rfl (Or.inr rfl))
    (jxR_c (jxF_mk rfl rfl (q := (RX12, TX12, 78)) rfl (by decide) (jxat_mk (jxpc6 (j := 128) rfl) rfl) (tyX12_ok 7 (by decide)) rfl rfl rfl (Or.inr rfl))
    (jxR_c (jxF_mk rfl rfl (q := (RX12, TX12, 78)) rfl (by decide) (jxat_mk (jxpc6 (j := 129) rfl) rfl) (tyX12_ok 8 (by decide)) rfl rfl rfl (Or.inr rfl))
    (jxR_c (jxF_mk rfl rfl (q := (RX12, TX12, 78)) rfl (by decide) (jxat_mk (jxpc6 (j := 131) rfl) rfl) (tyX12_ok 10 (by decide)) rfl rfl rfl (Or.inr rfl))
    (jxR_c (jxF_mk rfl rfl (q := (RX12, TX12, 78)) rfl (by decide) (jxat_mk (jxpc6 (j := 132) rfl) rfl) (tyX12_ok 11 (by decide)) rfl rfl rfl (Or.inr rfl))
    (jxR_c (jxF_mk rfl rfl (q := (RX12, TX12, 78)) rfl (by decide) (jxat_mk (jxpc6 (j := 133) rfl) rfl) (tyX12_ok 12 (by decide)) rfl rfl rfl (Or.inr rfl))
    (jxR_c (jxF_mk rfl rfl (q := (RX12, TX12, 78)) rfl (by decide) (jxat_mk (jxpc6 (j := 134) rfl) rfl) (tyX12_ok 13 (by decide)) rfl rfl rfl (Or.inr rfl))
    (jxR_c (jxF_mk rfl rfl (q := (RX12, TX12, 78)) rfl (by decide) (jxat_mk (jxpc6 (j := 135) rfl) rfl) (tyX12_ok 14 (by decide)) rfl rfl rfl (Or.inr rfl))
    (jxR_c (jxF_mk rfl rfl (q := (RX12, TX12, 78)) rfl (by decide) (jxat_mk (jxpc6 (j := 136) rfl) rfl) (tyX12_ok 15 (by decide)) rfl rfl rfl (Or.inr rfl))
    (jxR_c (jxF_mk rfl rfl (q := (RX12, TX12, 78)) rfl (by decide) (jxat_mk (jxpc6 (j := 137) rfl) rfl) (tyX12_ok 16 (by decide)) rfl rfl rfl (Or.inr rfl))
    (jxR_c (jxF_mk rfl rfl (q := (RX12, TX12, 78)) rfl (by decide) (jxat_mk (jxpc6 (j := 139) rfl) rfl) (tyX12_ok 18 (by decide)) rfl rfl rfl (Or.inr rfl))
    (jxR_c (jxF_mk rfl rfl (q := (RX12, TX12, 78)) rfl (by decide) (jxat_mk (jxpc6 (j := 140) rfl) rfl) (tyX12_ok 19 (by decide)) rfl rfl rfl (Or.inr rfl))
    (jxR_c (jxF_mk rfl rfl (q := (RX12, TX12, 78)) rfl (by decide) (jxat_mk (jxpc6 (j := 141) rfl) rfl) (tyX12_ok 20 (by decide)) rfl rfl rfl (Or.inr rfl))
    (jxR_c (jxF_mk rfl rfl (q := (RX12, TX12, 78)) rfl (by decide) (jxat_mk (jxpc6 (j := 142) rfl) rfl) (tyX12_ok 21 (by decide)) rfl rfl rfl (Or.inr rfl))
    (jxR_c (jxF_mk rfl rfl (q := (RX12, TX12, 78)) rfl (by decide) (jxat_mk (jxpc6 (j := 149) rfl) rfl) (tyX12_ok 28 (by decide)) rfl rfl rfl (Or.inr rfl))
    (jxR_c (jxF_mk rfl rfl (q := (RX12, TX12, 78)) rfl (by decide) (jxat_mk (jxpc6 (j := 150) rfl) rfl) (tyX12_ok 29 (by decide)) rfl rfl rfl (Or.inr rfl))
    (jxR_c (jxF_mk rfl rfl (q := (RX12, TX12, 78)) rfl (by decide) (jxat_mk (jxpc6 (j := 151) rfl) rfl) (tyX12_ok 30 (by decide)) rfl rfl rfl (Or.inr rfl))
    (jxR_c (jxF_mk rfl rfl (q := (RX12, TX12, 78)) rfl (by decide) (jxat_mk (jxpc6 (j := 152) rfl) rfl) (tyX12_ok 31 (by decide)) rfl rfl rfl (Or.inr rfl))
    (jxR_c (jxF_mk rfl rfl (q := (RX12, TX12, 78)) rfl (by decide) (jxat_mk (jxpc6 (j := 155) rfl) rfl) (tyX12_ok 34 (by decide)) rfl rfl rfl (Or.inr rfl))
    (jxR_c (jxF_mk rfl rfl (q := (RX12, TX12, 78)) rfl (by decide) (jxat_mk (jxpc6 (j := 157) rfl) rfl) (tyX12_ok 36 (by decide)) rfl rfl rfl (Or.inr rfl))
    (jxR_c (jxF_mk rfl rfl (q := (RX12, TX12, 78)) rfl (by decide) (jxat_mk (jxpc6 (j := 158) rfl) rfl) (tyX12_ok 37 (by decide)) rfl rfl rfl (Or.inr rfl))
    (jxR_c (jxF_mk rfl rfl (q := (RX12, TX12, 78)) rfl (by decide) (jxat_mk (jxpc6 (j := 159) rfl) rfl) (tyX12_ok 38 (by decide)) rfl rfl rfl (Or.inr rfl))
    (jxR_c (jxF_mk rfl rfl (q := (RX12, TX12, 78)) rfl (by decide) (jxat_mk (jxpc6 (j := 164) rfl) rfl) (tyX12_ok 43 (by decide)) rfl rfl rfl (Or.inr rfl))
    (jxR_c (jxF_mk rfl rfl (q := (RX12, TX12, 78)) rfl (by decide) (jxat_mk (jxpc6 (j := 166) rfl) rfl) (tyX12_ok 45 (by decide)) rfl rfl rfl (Or.inr rfl))
    (jxR_c (jxF_mk rfl rfl (q := (RX12, TX12, 78)) rfl (by decide) (jxat_mk (jxpc6 (j := 167) rfl) rfl) (tyX12_ok 46 (by decide)) rfl rfl rfl (Or.inr rfl))
    (jxR_c (jxF_mk rfl rfl (q := (RX12, TX12, 78)) rfl (by decide) (jxat_mk (jxpc6 (j := 168) rfl) rfl) (tyX12_ok 47 (by decide)) rfl rfl rfl (Or.inr rfl))
    (jxR_c (jxF_mk rfl rfl (q := (RX12, TX12, 78)) rfl (by decide) (jxat_mk (jxpc6 (j := 169) rfl) rfl) (tyX12_ok 48 (by decide)) rfl rfl rfl (Or.inr rfl))
    (jxR_c (jxF_mk rfl rfl (q := (RX12, TX12, 78)) rfl (by decide) (jxat_mk (jxpc6 (j := 171) rfl) rfl) (tyX12_ok 50 (by decide)) rfl rfl rfl (Or.inr rfl))
    (jxR_c (jxF_mk rfl rfl (q := (RX12, TX12, 78)) rfl (by decide) (jxat_mk (jxpc6 (j := 172) rfl) rfl) (tyX12_ok 51 (by decide)) rfl rfl rfl (Or.inr rfl))
    (jxR_c (jxF_mk rfl rfl (q := (RX12, TX12, 78)) rfl (by decide) (jxat_mk (jxpc6 (j := 173) rfl) rfl) (tyX12_ok 52 (by decide)) rfl rfl rfl (Or.inr rfl))
    (jxR_c (jxF_mk rfl rfl (q := (RX12, TX12, 78)) rfl (by decide) (jxat_mk (jxpc6 (j := 174) rfl) rfl) (tyX12_ok 53 (by decide)) rfl rfl rfl (Or.inr rfl))
    (jxR_c (jxF_mk rfl rfl (q := (RX12, TX12, 78)) rfl (by decide) (jxat_mk (jxpc6 (j := 175) rfl) rfl) (tyX12_ok 54 (by decide)) rfl rfl rfl (Or.inr rfl))
    (jxR_c (jxF_mk rfl rfl (q := (RX12, TX12, 78)) rfl (by decide) (jxat_mk (jxpc6 (j := 178) rfl) rfl) (tyX12_ok 57 (by decide)) rfl rfl rfl (Or.inr rfl))
    (jxR_c (jxF_mk rfl rfl (q := (RX12, TX12, 78)) rfl (by decide) (jxat_mk (jxpc6 (j := 180) rfl) rfl) (tyX12_ok 59 (by decide)) rfl rfl rfl (Or.inr rfl))
    (jxR_c (jxF_mk rfl rfl (q := (RX12, TX12, 78)) rfl (by decide) (jxat_mk (jxpc6 (j := 181) rfl) rfl) (tyX12_ok 60 (by decide)) rfl rfl rfl (Or.inr rfl))
    (jxR_c (jxF_mk rfl rfl (q := (RX12, TX12, 78)) rfl (by decide) (jxat_mk (jxpc6 (j := 182) rfl) rfl) (tyX12_ok 61 (by decide)) rfl rfl rfl (Or.inr rfl))
    (jxR_c (jxF_mk rfl rfl (q := (RX12, TX12, 78)) rfl (by decide) (jxat_mk (jxpc6 (j := 183) rfl) rfl) (tyX12_ok 62 (by decide)) rfl rfl rfl (Or.inr rfl))
    (jxR_c (jxF_mk rfl rfl (q := (RX12, TX12, 78)) rfl (by decide) (jxat_mk (jxpc6 (j := 184) rfl) rfl) (tyX12_ok 63 (by decide)) rfl rfl rfl (Or.inr rfl))
    (jxR_c (jxF_mk rfl rfl (q := (RX12, TX12, 78)) rfl (by decide) (jxat_mk (jxpc6 (j := 186) rfl) rfl) (tyX12_ok 65 (by decide)) rfl rfl rfl (Or.inr rfl))
    (jxR_c (jxF_mk rfl rfl (q := (RX12, TX12, 78)) rfl (by decide) (jxat_mk (jxpc6 (j := 187) rfl) rfl) (tyX12_ok 66 (by decide)) rfl rfl rfl (Or.inr rfl))
    (jxR_c (jxF_mk rfl rfl (q := (RX12, TX12, 78)) rfl (by decide) (jxat_mk (jxpc6 (j := 188) rfl) rfl) (tyX12_ok 67 (by decide)) rfl rfl rfl (Or.inr rfl))
    (jxR_c (jxF_mk rfl rfl (q := (RX12, TX12, 78)) rfl (by decide) (jxat_mk (jxpc6 (j := 190) rfl) rfl) (tyX12_ok 69 (by decide)) rfl rfl rfl (Or.inr rfl))
    (jxR_c (jxF_mk rfl rfl (q := (RX12, TX12, 78)) rfl (by decide) (jxat_mk (jxpc6 (j := 191) rfl) rfl) (tyX12_ok 70 (by decide)) rfl rfl rfl (Or.inr rfl))
    (jxR_c (jxF_mk rfl rfl (q := (RX12, TX12, 78)) rfl (by decide) (jxat_mk (jxpc6 (j := 192) rfl) rfl) (tyX12_ok 71 (by decide)) rfl rfl rfl (Or.inr rfl))
    (jxR_c (jxF_mk rfl rfl (q := (RX12, TX12, 78)) rfl (by decide) (jxat_mk (jxpc6 (j := 193) rfl) rfl) (tyX12_ok 72 (by decide)) rfl rfl rfl (Or.inr rfl))
    (jxR_c (jxF_mk rfl rfl (q := (RX12, TX12, 78)) rfl (by decide) (jxat_mk (jxpc6 (j := 194) rfl) rfl) (tyX12_ok 73 (by decide)) rfl rfl rfl (Or.inr rfl))
    (jxR_c (jxF_mk rfl rfl (q := (RX12, TX12, 78)) rfl (by decide) (jxat_mk (jxpc6 (j := 195) rfl) rfl) (tyX12_ok 74 (by decide)) rfl rfl rfl (Or.inr rfl))
    (jxR_c (jxF_mk rfl rfl (q := (RX12, TX12, 78)) rfl (by decide) (jxat_mk (jxpc6 (j := 197) rfl) rfl) (tyX12_ok 76 (by decide)) rfl rfl rfl (Or.inr rfl))
    (jxR_c (jxF_mk rfl rfl (q := (RX12, TX12, 78)) rfl (by decide) (jxat_mk (jxpc6 (j := 198) rfl) rfl) (tyX12_ok 77 (by decide)) rfl rfl rfl (Or.inr rfl))
    (jxR_c (jxF_mk rfl rfl (q := (RX12, TX12, 78)) rfl (by decide) (jxat_mk (jxpc6 (j := 123) rfl) rfl) (tyX12_ok 2 (by decide)) rfl rfl rfl (Or.inl rfl))
    (jxR_c (jxF_mk rfl rfl (q := (RX12, TX12, 78)) rfl (by decide) (jxat_mk (jxpc6 (j := 121) rfl) rfl) (tyX12_ok 0 (by decide)) rfl rfl rfl (Or.inl rfl))
    (jxR_c (jxF_mk rfl rfl (q := (RX12, TX12, 78)) rfl (by decide) (jxat_mk (jxpc6 (j := 143) rfl) rfl) (tyX12_ok 22 (by decide)) rfl rfl rfl (Or.inl rfl))
    (jxR_c (jxF_mk rfl rfl (q := (RX12, TX12, 78)) rfl (by decide) (jxat_mk (jxpc6 (j := 145) rfl) rfl) (tyX12_ok 24 (by decide)) rfl rfl rfl (Or.inl rfl))
    (jxR_c (jxF_mk rfl rfl (q := (RX12, TX12, 78)) rfl (by decide) (jxat_mk (jxpc6 (j := 144) rfl) rfl) (tyX12_ok 23 (by decide)) rfl rfl rfl (Or.inl rfl))
    (jxR_c (jxF_mk rfl rfl (q := (RX12, TX12, 78)) rfl (by decide) (jxat_mk (jxpc6 (j := 146) rfl) rfl) (tyX12_ok 25 (by decide)) rfl rfl rfl (Or.inl rfl))
    (jxR_c (jxF_mk rfl rfl (q := (RX12, TX12, 78)) rfl (by decide) (jxat_mk (jxpc6 (j := 148) rfl) rfl) (tyX12_ok 27 (by decide)) rfl rfl rfl (Or.inl rfl))
    (jxR_c (jxF_mk rfl rfl (q := (RX12, TX12, 78)) rfl (by decide) (jxat_mk (jxpc6 (j := 147) rfl) rfl) (tyX12_ok 26 (by decide)) rfl rfl rfl (Or.inl rfl))
    (jxR_c (jxF_mk rfl rfl (q := (RX12, TX12, 78)) rfl (by decide) (jxat_mk (jxpc6 (j := 153) rfl) rfl) (tyX12_ok 32 (by decide)) rfl rfl rfl (Or.inl rfl))
    (jxR_c (jxF_mk rfl rfl (q := (RX12, TX12, 78)) rfl (by decide) (jxat_mk (jxpc6 (j := 156) rfl) rfl) (tyX12_ok 35 (by decide)) rfl rfl rfl (Or.inl rfl))
    (jxR_c (jxF_mk rfl rfl (q := (RX12, TX12, 78)) rfl (by decide) (jxat_mk (jxpc6 (j := 154) rfl) rfl) (tyX12_ok 33 (by decide)) rfl rfl rfl (Or.inl rfl))
    (jxR_c (jxF_mk rfl rfl (q := (RX12, TX12, 78)) rfl (by decide) (jxat_mk (jxpc6 (j := 138) rfl) rfl) (tyX12_ok 17 (by decide)) rfl rfl rfl (Or.inl rfl))
    (jxR_c (jxF_mk rfl rfl (q := (RX12, TX12, 78)) rfl (by decide) (jxat_mk (jxpc6 (j := 130) rfl) rfl) (tyX12_ok 9 (by decide)) rfl rfl rfl (Or.inl rfl))
    (jxR_c (jxF_mk rfl rfl (q := (RX12, TX12, 78)) rfl (by decide) (jxat_mk (jxpc6 (j := 160) rfl) rfl) (tyX12_ok 39 (by decide)) rfl rfl rfl (Or.inl rfl))
    (jxR_c (jxF_mk rfl rfl (q := (RX12, TX12, 78)) rfl (by decide) (jxat_mk (jxpc6 (j := 161) rfl) rfl) (tyX12_ok 40 (by decide)) rfl rfl rfl (Or.inl rfl))
    (jxR_c (jxF_mk rfl rfl (q := (RX12, TX12, 78)) rfl (by decide) (jxat_mk (jxpc6 (j := 162) rfl) rfl) (tyX12_ok 41 (by decide)) rfl rfl rfl (Or.inl rfl))
    (jxR_c (jxF_mk rfl rfl (q := (RX12, TX12, 78)) rfl (by decide) (jxat_mk (jxpc6 (j := 163) rfl) rfl) (tyX12_ok 42 (by decide)) rfl rfl rfl (Or.inl rfl))
    (jxR_c (jxF_mk rfl rfl (q := (RX12, TX12, 78)) rfl (by decide) (jxat_mk (jxpc6 (j := 165) rfl) rfl) (tyX12_ok 44 (by decide)) rfl rfl rfl (Or.inl rfl))
    (jxR_c (jxF_mk rfl rfl (q := (RX12, TX12, 78)) rfl (by decide) (jxat_mk (jxpc6 (j := 170) rfl) rfl) (tyX12_ok 49 (by decide)) rfl rfl rfl (Or.inl rfl))
    (jxR_c (jxF_mk rfl rfl (q := (RX12, TX12, 78)) rfl (by decide) (jxat_mk (jxpc6 (j := 179) rfl) rfl) (tyX12_ok 58 (by decide)) rfl rfl rfl (Or.inl rfl))
    (jxR_c (jxF_mk rfl rfl (q := (RX12, TX12, 78)) rfl (by decide) (jxat_mk (jxpc6 (j := 177) rfl) rfl) (tyX12_ok 56 (by decide)) rfl rfl rfl (Or.inl rfl))
    (jxR_c (jxF_mk rfl rfl (q := (RX12, TX12, 78)) rfl (by decide) (jxat_mk (jxpc6 (j := 185) rfl) rfl) (tyX12_ok 64 (by decide)) rfl rfl rfl (Or.inl rfl))
    (jxR_c (jxF_mk rfl rfl (q := (RX12, TX12, 78)) rfl (by decide) (jxat_mk (jxpc6 (j := 176) rfl) rfl) (tyX12_ok 55 (by decide)) rfl rfl rfl (Or.inl rfl))
    (jxR_c (jxF_mk rfl rfl (q := (RX12, TX12, 78)) rfl (by decide) (jxat_mk (jxpc6 (j := 189) rfl) rfl) (tyX12_ok 68 (by decide)) rfl rfl rfl (Or.inl rfl))
    (jxR_c (jxF_mk rfl rfl (q := (RX12, TX12, 78)) rfl (by decide) (jxat_mk (jxpc6 (j := 196) rfl) rfl) (tyX12_ok 75 (by decide)) rfl rfl rfl (Or.inl rfl))
    (jxR_n))))))))))))))))))))))))))))))))))))))))))))))))))))))))))))))))))))))))))))))
set_option maxRecDepth 100000 in
theorem jxchkF_ok_13 : jxrowP (jxchkF 13) (jxfl.getD 13 []) := jxR_n
set_option maxRecDepth 100000 in
theorem jxchkF_ok_14 : jxrowP (jxchkF 14) (jxfl.getD 14 []) := jxR_n
set_option maxRecDepth 100000 in
theorem jxchkF_ok_15 : jxrowP (jxchkF 15) (jxfl.getD 15 []) := jxR_c (jxF_v rfl (jxat_mk (jxpc8 (j := 215) rfl) rfl))
    (jxR_c (jxF_k rfl rfl (jxat_mk (jxpc8 (j := 216) rfl) rfl))
    (jxR_n))
set_option maxRecDepth 100000 in
theorem jxchkF_ok_16 : jxrowP (jxchkF 16) (jxfl.getD 16 []) := jxR_n
set_option maxRecDepth 100000 in
theorem jxchkF_ok_17 : jxrowP (jxchkF 17) (jxfl.getD 17 []) := jxR_n
set_option maxRecDepth 100000 in
theorem jxchkF_ok_18 : jxrowP (jxchkF 18) (jxfl.getD 18 []) := jxR_n
set_option maxRecDepth 100000 in
theorem jxchkF_ok_19 : jxrowP (jxchkF 19) (jxfl.getD 19 []) := jxR_n
set_option maxRecDepth 100000 in
theorem jxchkF_ok : jxall jxfl jxchkF = true := jxall_of (show jxallP jxchkF 0 jxfl from jxA_c jxchkF_ok_0 (jxA_c jxchkF_ok_1 (jxA_c jxchkF_ok_2 (jxA_c jxchkF_ok_3 (jxA_c jxchkF_ok_4 (jxA_c jxchkF_ok_5 (jxA_c jxchkF_ok_6 (jxA_c jxchkF_ok_7 (jxA_c jxchkF_ok_8 (jxA_c jxchkF_ok_9 (jxA_c jxchkF_ok_10 (jxA_c jxchkF_ok_11 (jxA_c jxchkF_ok_12 (jxA_c jxchkF_ok_13 (jxA_c jxchkF_ok_14 (jxA_c jxchkF_ok_15 (jxA_c jxchkF_ok_16 (jxA_c jxchkF_ok_17 (jxA_c jxchkF_ok_18 (jxA_c jxchkF_ok_19 (jxA_n)))))))))))))))))))))
set_option maxRecDepth 100000 in
theorem jxcw0 : (((u_ws RX0 TX0 16).zip [245, 247, 249, 251, 253, 255, 257, 259, 261, 263, 265, 267, 269, 271, 273, 275]).all (fun q => jxat q.2 q.1) && decide ((u_ws RX0 TX0 16).length = 16)) = true := by decide +kernel
set_option maxRecDepth 100000 in
theorem jxcw1 : (((u_ws RX1 TX1 4).zip [440, 442, 444, 446]).all (fun q => jxat q.2 q.1) && decide ((u_ws RX1 TX1 4).length = 4)) = true := by decide +kernel
set_option maxRecDepth 100000 in
theorem jxcw2 : (((u_ws RX2 TX2 5).zip [314, 316, 318, 320, 322]).all (fun q => jxat q.2 q.1) && decide ((u_ws RX2 TX2 5).length = 5)) = true := by decide +kernel
set_option maxRecDepth 100000 in
theorem jxcw3 : (((u_ws RX3 TX3 7).zip [156, 158, 160, 162, 164, 166, 168]).all (fun q => jxat q.2 q.1) && decide ((u_ws RX3 TX3 7).length = 7)) = true := by decide +kernel
set_option maxRecDepth 100000 in
theorem jxcw4 : (((u_ws RX4 TX4 8).zip [340, 342, 344, 346, 348, 350, 352, 354]).all (fun q => jxat q.2 q.1) && decide ((u_ws RX4 TX4 8).length = 8)) = true := by decide +kernel
set_option maxRecDepth 100000 in
theorem jxcw5 : (((u_ws RX5 TX5 13).zip [377, 379, 381, 383, 385, 387, 389, 391, 393, 395, 397, 399, 401]).all (fun q => jxat q.2 q.1) && decide ((u_ws RX5 TX5 13).length = 13)) = true := by decide +kernel
set_option maxRecDepth 100000 in
theorem jxcw6 : (((u_ws RX6 TX6 3).zip [216, 218, 220]).all (fun q => jxat q.2 q.1) && decide ((u_ws RX6 TX6 3).length = 3)) = true := by decide +kernel
set_option maxRecDepth 100000 in
theorem jxcw7 : (((u_ws RX7 TX7 6).zip [290, 292, 294, 296, 298, 300]).all (fun q => jxat q.2 q.1) && decide ((u_ws RX7 TX7 6).length = 6)) = true := by decide +kernel
set_option maxRecDepth 100000 in
theorem jxcw8 : (((u_ws RX8 TX8 4).zip [133, 135, 137, 139]).all (fun q => jxat q.2 q.1) && decide ((u_ws RX8 TX8 4).length = 4)) = true := by decide +kernel
set_option maxRecDepth 100000 in
theorem jxcw9 : (((u_ws RX9 TX9 6).zip [417, 419, 421, 423, 425, 427]).all (fun q => jxat q.2 q.1) && decide ((u_ws RX9 TX9 6).length = 6)) = true := by decide +kernel
set_option maxRecDepth 100000 in
theorem jxcw10 : (((u_ws RX10 TX10 8).zip [188, 190, 192, 194, 196, 198, 200, 202]).all (fun q => jxat q.2 q.1) && decide ((u_ws RX10 TX10 8).length = 8)) = true := by decide +kernel
set_option maxRecDepth 100000 in
theorem jxcw11 : (((u_ws RX11 TX11 17).zip [466, 468, 470, 472, 474, 476, 478, 480, 482, 484, 486, 488, 490, 492, 494, 496, 498]).all (fun q => jxat q.2 q.1) && decide ((u_ws RX11 TX11 17).length = 17)) = true := by decide +kernel
set_option maxRecDepth 100000 in
theorem jxcw12 : (((u_ws RX12 TX12 78).zip [1494, 1496, 1498, 1500, 1502, 1504, 1506, 1508, 1510, 1512, 1514, 1516, 1518, 1520, 1522, 1524, 1526, 1528, 1530, 1532, 1534, 1536, 1538, 1540, 1542, 1544, 1546, 1548, 1550, 1552, 1554, 1556, 1558, 1560, 1562, 1564, 1566, 1568, 1570, 1572, 1574, 1576, 1578, 1580, 1582, 1584, 1586, 1588, 1590, 1592, 1594, 1596, 1598, 1600, 1602, 1604, 1606, 1608, 1610, 1612, 1614, 1616, 1618, 1620, 1622, 1624, 1626, 1628, 1630, 1632, 1634, 1636, 1638, 1640, 1642, 1644, 1646, 1648]).all (fun q => jxat q.2 q.1) && decide ((u_ws RX12 TX12 78).length = 78)) = true := by decide +kernel
theorem jxcw_mem {ws : List Jvm.Cond} {ps : List Nat} {n : Nat} (h : ((ws.zip ps).all (fun q => jxat q.2 q.1) && decide (ws.length = n)) = true) (hn : ps.length = n) : ∀ w ∈ ws, w ∈ jxgoodw := by
  simp only [Bool.and_eq_true, decide_eq_true_eq] at h
  obtain ⟨h1, h2⟩ := h
  intro w hw
  obtain ⟨i, hi⟩ := List.getElem?_of_mem hw
  have hl : i < ps.length := by have := (List.getElem?_eq_some_iff.mp hi).1; omega
  have hz : (ws.zip ps)[i]? = some (w, ps[i]) := by rw [List.getElem?_zip_eq_some]; exact ⟨hi, List.getElem?_eq_getElem hl⟩
  exact jxat_mem (List.all_eq_true.mp h1 _ (List.mem_of_getElem? hz))
/-- of a class: its words, its fields' names apart, their types -/
def jxclsP (q : vw_C) : Prop := (∀ w ∈ u_ws q.1 q.2.1 q.2.2, w ∈ jxgoodw) ∧ (∀ a, a < q.2.2 → ∀ b, b < q.2.2 → a ≠ b → (q.2.1 a).2.1 ≠ (q.2.1 b).2.1) ∧ ∃ ty : Nat → FieldType, ∀ k, k < q.2.2 → parseFieldDescriptor (q.2.1 k).2.2.1 = some (ty k)
theorem jxcls_ok : ∀ q ∈ vwCl, jxclsP q := by
  unfold vwCl
  refine List.forall_mem_cons.mpr ⟨⟨jxcw_mem jxcw0 rfl, nmX0, tyX0, tyX0_ok⟩, ?_⟩
  refine List.forall_mem_cons.mpr ⟨⟨jxcw_mem jxcw1 rfl, nmX1, tyX1, tyX1_ok⟩, ?_⟩
  refine List.forall_mem_cons.mpr ⟨⟨jxcw_mem jxcw2 rfl, nmX2, tyX2, tyX2_ok⟩, ?_⟩
  refine List.forall_mem_cons.mpr ⟨⟨jxcw_mem jxcw3 rfl, nmX3, tyX3, tyX3_ok⟩, ?_⟩
  refine List.forall_mem_cons.mpr ⟨⟨jxcw_mem jxcw4 rfl, nmX4, tyX4, tyX4_ok⟩, ?_⟩
  refine List.forall_mem_cons.mpr ⟨⟨jxcw_mem jxcw5 rfl, nmX5, tyX5, tyX5_ok⟩, ?_⟩
  refine List.forall_mem_cons.mpr ⟨⟨jxcw_mem jxcw6 rfl, nmX6, tyX6, tyX6_ok⟩, ?_⟩
  refine List.forall_mem_cons.mpr ⟨⟨jxcw_mem jxcw7 rfl, nmX7, tyX7, tyX7_ok⟩, ?_⟩
  refine List.forall_mem_cons.mpr ⟨⟨jxcw_mem jxcw8 rfl, nmX8, tyX8, tyX8_ok⟩, ?_⟩
  refine List.forall_mem_cons.mpr ⟨⟨jxcw_mem jxcw9 rfl, nmX9, tyX9, tyX9_ok⟩, ?_⟩
  refine List.forall_mem_cons.mpr ⟨⟨jxcw_mem jxcw10 rfl, nmX10, tyX10, tyX10_ok⟩, ?_⟩
  refine List.forall_mem_cons.mpr ⟨⟨jxcw_mem jxcw11 rfl, nmX11, tyX11, tyX11_ok⟩, ?_⟩
  refine List.forall_mem_cons.mpr ⟨⟨jxcw_mem jxcw12 rfl, nmX12, tyX12, tyX12_ok⟩, ?_⟩
  exact fun _ h => absurd h List.not_mem_nil
def jxpM : List (Nat × Nat × Nat × Nat) := [(227, 101, 226, 0), (550, 101, 548, 549), (1386, 101, 1384, 1385), (573, 101, 571, 572), (862, 101, 860, 861), (989, 101, 987, 988), (581, 101, 579, 580), (554, 101, 552, 553), (874, 101, 872, 873), (1073, 101, 1071, 1072), (1078, 101, 1076, 1077), (1082, 101, 1080, 1081), (565, 101, 563, 564), (577, 101, 575, 576), (1051, 101, 1049, 1050), (1064, 101, 1062, 1063), (1056, 101, 1055, 27), (561, 101, 559, 560), (1090, 101, 1088, 1089), (569, 101, 568, 1), (908, 101, 906, 907), (1107, 101, 1105, 1106), (970, 101, 968, 969), (974, 101, 972, 973), (979, 101, 978, 23), (1117, 101, 1115, 1116), (1121, 101, 1119, 1120), (1125, 101, 1123, 1124), (434, 107, 433, 0), (1325, 107, 1323, 1324), (1402, 107, 1400, 1401), (1406, 107, 1404, 1405), (1372, 107, 1370, 1371), (1334, 107, 1332, 1333), (1338, 107, 1337, 43), (1344, 107, 1343, 44), (1349, 107, 1348, 45), (1353, 107, 1352, 46), (1364, 107, 1363, 47), (1357, 107, 1356, 0), (307, 103, 306, 0), (1009, 103, 1007, 1008), (1020, 103, 1019, 25), (1024, 103, 1022, 1023), (1031, 103, 1029, 1030), (1035, 103, 1034, 26), (1039, 103, 1037, 1038), (1043, 103, 1041, 1042), (1016, 103, 1015, 0), (147, 98, 146, 0), (916, 98, 914, 915), (538, 98, 536, 537), (534, 98, 532, 533), (1381, 98, 1379, 1380), (526, 98, 524, 525), (542, 98, 540, 541), (585, 98, 583, 584), (802, 98, 800, 801), (807, 98, 805, 806), (816, 98, 814, 815), (929, 98, 927, 928), (912, 98, 910, 911), (330, 104, 329, 0), (589, 104, 587, 588), (1390, 104, 1388, 1389), (606, 104, 604, 605), (1133, 104, 1131, 1132), (1242, 104, 1240, 1241), (1246, 104, 1244, 1245), (614, 104, 612, 613), (1141, 104, 1139, 1140), (602, 104, 600, 601), (1254, 104, 1252, 1253), (593, 104, 591, 592), (1169, 104, 1167, 1168), (1165, 104, 1163, 1164), (1266, 104, 1264, 1265), (1270, 104, 1268, 1269), (610, 104, 608, 609), (361, 105, 360, 0), (1233, 105, 1231, 1232), (1229, 105, 1227, 1228), (1149, 105, 1147, 1148), (1153, 105, 1152, 28), (1159, 105, 1158, 29), (1181, 105, 1180, 32), (1173, 105, 1172, 30), (1177, 105, 1176, 31), (1184, 105, 1183, 0), (1205, 105, 1204, 35), (1188, 105, 1187, 33), (1192, 105, 1191, 34), (1208, 105, 1207, 0), (1201, 105, 1200, 0), (1213, 105, 1212, 36), (1217, 105, 1216, 37), (1221, 105, 1220, 38), (209, 100, 208, 0), (900, 100, 898, 899), (887, 100, 885, 886), (941, 100, 939, 940), (966, 100, 964, 965), (949, 100, 947, 948), (824, 100, 822, 823), (830, 100, 829, 13), (834, 100, 833, 14), (838, 100, 837, 0), (282, 102, 281, 0), (866, 102, 864, 865), (878, 102, 877, 15), (891, 102, 889, 890), (933, 102, 931, 932), (937, 102, 935, 936), (896, 102, 894, 895), (1099, 102, 1097, 1098), (957, 102, 955, 956), (127, 97, 126, 0), (631, 97, 629, 630), (623, 97, 621, 622), (627, 97, 625, 626), (639, 97, 637, 638), (652, 97, 650, 651), (695, 97, 693, 694), (780, 97, 778, 779), (741, 97, 739, 740), (749, 97, 747, 748), (676, 97, 674, 675), (660, 97, 658, 659), (681, 97, 679, 680), (737, 97, 735, 736), (772, 97, 770, 771), (656, 97, 655, 3), (408, 106, 407, 0), (1394, 106, 1392, 1393), (1278, 106, 1276, 1277), (1282, 106, 1280, 1281), (1287, 106, 1286, 39), (1297, 106, 1296, 40), (1313, 106, 1311, 1312), (1317, 106, 1316, 42), (176, 99, 175, 0), (648, 99, 646, 647), (784, 99, 783, 10), (664, 99, 663, 4), (668, 99, 667, 5), (672, 99, 671, 6), (754, 99, 753, 8), (758, 99, 757, 9), (768, 99, 767, 0), (745, 99, 744, 7), (794, 99, 792, 793), (798, 99, 797, 11), (811, 99, 810, 12), (119, 96, 118, 0), (504, 96, 502, 503), (514, 96, 512, 513), (521, 96, 519, 520), (530, 96, 528, 529), (546, 96, 545, 0), (598, 96, 597, 2), (619, 96, 617, 618), (635, 96, 633, 634), (643, 96, 641, 642), (790, 96, 788, 789), (820, 96, 818, 819), (858, 96, 856, 857), (993, 96, 991, 992), (997, 96, 995, 996), (1001, 96, 999, 1000), (1005, 96, 1004, 24), (925, 96, 924, 19), (883, 96, 882, 16), (920, 96, 919, 18), (945, 96, 944, 20), (904, 96, 903, 17), (953, 96, 952, 21), (961, 96, 960, 22), (1047, 96, 1045, 1046), (1060, 96, 1058, 1059), (1068, 96, 1066, 1067), (1086, 96, 1084, 1085), (1094, 96, 1092, 1093), (1103, 96, 1101, 1102), (1112, 96, 1110, 1111), (1129, 96, 1127, 1128), (1137, 96, 1135, 1136), (1145, 96, 1143, 1144), (1225, 96, 1223, 1224), (1237, 96, 1235, 1236), (1250, 96, 1248, 1249), (1259, 96, 1257, 1258), (1274, 96, 1272, 1273), (1305, 96, 1303, 1304), (1321, 96, 1319, 1320), (1330, 96, 1328, 1329), (1368, 96, 1366, 1367), (1309, 96, 1308, 41), (1377, 96, 1375, 1376), (1398, 96, 1397, 48), (510, 96, 509, 0), (507, 96, 506, 0), (517, 96, 516, 0), (557, 96, 556, 0), (1411, 108, 1410, 0), (1657, 108, 1656, 0), (1759, 108, 1758, 0), (1664, 108, 1663, 0), (1689, 108, 1688, 50), (1654, 108, 1652, 1653), (1661, 108, 1659, 1660), (1668, 108, 1666, 1667), (1677, 108, 1676, 49), (1673, 108, 1671, 1672), (1681, 108, 1679, 1680), (1713, 108, 1712, 56), (1693, 108, 1692, 51), (1705, 108, 1704, 54), (1717, 108, 1716, 57), (1721, 108, 1720, 58), (1725, 108, 1724, 59), (1709, 108, 1708, 55), (1729, 108, 1728, 60), (1733, 108, 1732, 61), (1701, 108, 1700, 53), (1697, 108, 1696, 52), (1685, 108, 1683, 1684), (1745, 108, 1744, 63), (1741, 108, 1740, 62), (1737, 108, 1735, 1736), (1816, 108, 1815, 75), (1415, 108, 1414, 0), (1752, 108, 1751, 0), (1749, 108, 1747, 1748), (1767, 108, 1766, 65), (1763, 108, 1762, 64), (1804, 108, 1803, 72), (1800, 108, 1799, 71), (1756, 108, 1754, 1755), (1775, 108, 1774, 66), (1771, 108, 1769, 1770), (1836, 108, 1835, 79), (1796, 108, 1795, 70), (1808, 108, 1807, 73), (1812, 108, 1811, 74), (1828, 108, 1827, 77), (1792, 108, 1791, 69), (1824, 108, 1823, 76), (1788, 108, 1787, 68), (1784, 108, 1783, 67), (1780, 108, 1778, 1779), (1832, 108, 1831, 78), (1820, 108, 1818, 1819), (1840, 108, 1838, 1839), (1855, 108, 1854, 81), (1848, 108, 1847, 80), (1844, 108, 1842, 1843), (1863, 108, 1862, 82), (1859, 108, 1857, 1858), (1867, 108, 1865, 1866), (1871, 108, 1869, 1870), (1875, 108, 1873, 1874), (1879, 108, 1877, 1878), (1883, 108, 1881, 1882), (1887, 108, 1885, 1886), (1903, 108, 1902, 85), (1899, 108, 1898, 84), (1907, 108, 1906, 86), (1895, 108, 1894, 83), (1917, 108, 1916, 0), (1910, 108, 1909, 0), (1914, 108, 1913, 87), (1891, 108, 1889, 1890), (1921, 108, 1920, 88), (1925, 108, 1923, 1924), (1929, 108, 1927, 1928), (1945, 108, 1944, 91), (1937, 108, 1936, 89), (1941, 108, 1940, 90), (1933, 108, 1931, 1932), (1949, 108, 1947, 1948), (1953, 108, 1951, 1952), (1961, 108, 1960, 92), (1957, 108, 1955, 1956), (1969, 108, 1968, 93), (1965, 108, 1963, 1964), (1973, 108, 1971, 1972), (1981, 108, 1980, 94), (1977, 108, 1975, 1976), (1985, 108, 1983, 1984), (1989, 108, 1987, 1988), (1195, 114, 1194, 0), (985, 113, 984, 0), (982, 113, 981, 0), (1360, 113, 1359, 0), (685, 109, 683, 684), (699, 109, 697, 698), (689, 109, 687, 688), (703, 109, 701, 702), (709, 109, 708, 0), (706, 110, 705, 0), (727, 112, 726, 0), (723, 112, 722, 0), (717, 112, 716, 0), (720, 112, 719, 0), (714, 111, 713, 0), (0, 0, 0, 0)]
def jxchkM (z : Nat) : Bool := match jxpM[z]? with
  | none => false
  | some (a, b, c, dd) => jxat a (.code (jxnm z) (jxcd z) (jxmaxl z) (jxrt z)) && jxat b (.initialized (jxnm z).cls) && plainFor (jxnm z) && decide ((jxnm z).cls ≠ "java/lang/invoke/MethodHandle") && decide ((jxnm z).cls ≠ "java/lang/invoke/VarHandle") && Nat.ble (jxmaxl z) 21 &&
    (match jxkind z with
    | 0 => jxat c (.static (jxnm z)) && decide ((parseMethodDescriptor (jxnm z).desc).map (fun d => d.parameters.length) = some (jxna z))
    | 1 => jxat c (.instanceMethod (jxnm z)) && jxat dd (.selects (jxnm z).cls (jxnm z) (jxnm z)) && decide ((parseMethodDescriptor (jxnm z).desc).map (fun d => d.parameters.length + 1) = some (jxna z)) && (bif Nat.beq (jxcls z) 1000 then decide ((jxnm z).cls = "java/lang/String") else decide ((vwCl[jxcls z]?).map (fun q => q.1) = some (jxnm z).cls))
    | _ => jxat c (.instanceMethod (jxnm z)) && decide ((jxnm z).name = "<init>") && decide ((parseMethodDescriptor (jxnm z).desc).map (fun d => d.parameters.length + 1) = some (jxna z)) && decide ((vwCl[jxcls z]?).map (fun q => q.1) = some (jxnm z).cls) && Nat.beq (jxret z) 0) && decide (jxcn (jxown z) = (jxnm z).cls)
def jxchkMs (a n : Nat) : Bool := (List.range n).all (fun i => Nat.beq (a + i) 305 || jxchkM (a + i))
theorem jxM_0 {z a b c dd : Nat} {C : String} (hp : jxpM[z]? = some (a, b, c, dd)) (hk : jxkind z = 0) (hC : (jxnm z).cls = C) (w1 : jxat a (.code (jxnm z) (jxcd z) (jxmaxl z) (jxrt z)) = true) (w2 : jxat b (.initialized (jxnm z).cls) = true) (hpf : plainFor (jxnm z) = true) (hx : C ≠ "java/lang/invoke/MethodHandle" ∧ C ≠ "java/lang/invoke/VarHandle") (hm : Nat.ble (jxmaxl z) 21 = true) (w3 : jxat c (.static (jxnm z)) = true) (hd : (parseMethodDescriptor (jxnm z).desc).map (fun d => d.parameters.length) = some (jxna z)) (ho : jxcn (jxown z) = (jxnm z).cls) : jxchkM z = true := by
  rw [← hC] at hx
  unfold jxchkM
  rw [hp]
  dsimp only
  rw [hk]
  simp only [w1, w2, w3, hpf, hm, hd, ho, decide_true, Bool.and_true, Bool.true_and, ne_eq, hx.1, hx.2, not_false_eq_true]
theorem jxM_1 {z a b c dd : Nat} {C : String} (hp : jxpM[z]? = some (a, b, c, dd)) (hk : jxkind z = 1) (hC : (jxnm z).cls = C) (w1 : jxat a (.code (jxnm z) (jxcd z) (jxmaxl z) (jxrt z)) = true) (w2 : jxat b (.initialized (jxnm z).cls) = true) (hpf : plainFor (jxnm z) = true) (hx : C ≠ "java/lang/invoke/MethodHandle" ∧ C ≠ "java/lang/invoke/VarHandle") (hm : Nat.ble (jxmaxl z) 21 = true) (w3 : jxat c (.instanceMethod (jxnm z)) = true) (w4 : jxat dd (.selects (jxnm z).cls (jxnm z) (jxnm z)) = true) (hd : (parseMethodDescriptor (jxnm z).desc).map (fun d => d.parameters.length + 1) = some (jxna z)) (hr : (Nat.beq (jxcls z) 1000 = true ∧ (jxnm z).cls = "java/lang/String") ∨ (Nat.beq (jxcls z) 1000 = false ∧ (vwCl[jxcls z]?).map (fun q => q.1) = some (jxnm z).cls)) (ho : jxcn (jxown z) = (jxnm z).cls) : jxchkM z = true := by
  rw [← hC] at hx
  unfold jxchkM
  rw [hp]
  dsimp only
  rw [hk]
  have hr2 : (bif Nat.beq (jxcls z) 1000 then decide ((jxnm z).cls = "java/lang/String") else decide ((vwCl[jxcls z]?).map (fun q => q.1) = some (jxnm z).cls)) = true := by
    rcases hr with ⟨h1, h2⟩ | ⟨h1, h2⟩
    · rw [h1, h2]; rfl
    · rw [h1, h2]; simp
  simp only [w1, w2, w3, w4, hpf, hm, hd, hr2, ho, decide_true, Bool.and_true, Bool.true_and, ne_eq, hx.1, hx.2, not_false_eq_true]
theorem jxM_2 {z a b c dd : Nat} {C : String} (hp : jxpM[z]? = some (a, b, c, dd)) (hk : jxkind z = 2) (hC : (jxnm z).cls = C) (w1 : jxat a (.code (jxnm z) (jxcd z) (jxmaxl z) (jxrt z)) = true) (w2 : jxat b (.initialized (jxnm z).cls) = true) (hpf : plainFor (jxnm z) = true) (hx : C ≠ "java/lang/invoke/MethodHandle" ∧ C ≠ "java/lang/invoke/VarHandle") (hm : Nat.ble (jxmaxl z) 21 = true) (w3 : jxat c (.instanceMethod (jxnm z)) = true) (hi : (jxnm z).name = "<init>") (hd : (parseMethodDescriptor (jxnm z).desc).map (fun d => d.parameters.length + 1) = some (jxna z)) (hr : (vwCl[jxcls z]?).map (fun q => q.1) = some (jxnm z).cls) (h0 : Nat.beq (jxret z) 0 = true) (ho : jxcn (jxown z) = (jxnm z).cls) : jxchkM z = true := by
  rw [← hC] at hx
  unfold jxchkM
  rw [hp]
  dsimp only
  rw [hk]
  simp only [w1, w2, w3, hpf, hm, hd, hi, hr, h0, ho, decide_true, Bool.and_true, Bool.true_and, ne_eq, hx.1, hx.2, not_false_eq_true]
theorem jxcx0 : "CardClub" ≠ "java/lang/invoke/MethodHandle" ∧ "CardClub" ≠ "java/lang/invoke/VarHandle" := by decide +kernel
theorem jxcy0 : plainName "CardClub" = true := by decide +kernel
theorem jxcx1 : "CardClub$Cards" ≠ "java/lang/invoke/MethodHandle" ∧ "CardClub$Cards" ≠ "java/lang/invoke/VarHandle" := by decide +kernel
theorem jxcy1 : plainName "CardClub$Cards" = true := by decide +kernel
theorem jxcx2 : "CardClub$Drawer" ≠ "java/lang/invoke/MethodHandle" ∧ "CardClub$Drawer" ≠ "java/lang/invoke/VarHandle" := by decide +kernel
theorem jxcy2 : plainName "CardClub$Drawer" = true := by decide +kernel
theorem jxcx3 : "CardClub$Matching" ≠ "java/lang/invoke/MethodHandle" ∧ "CardClub$Matching" ≠ "java/lang/invoke/VarHandle" := by decide +kernel
theorem jxcy3 : plainName "CardClub$Matching" = true := by decide +kernel
theorem jxcx4 : "CardClub$Members" ≠ "java/lang/invoke/MethodHandle" ∧ "CardClub$Members" ≠ "java/lang/invoke/VarHandle" := by decide +kernel
theorem jxcy4 : plainName "CardClub$Members" = true := by decide +kernel
theorem jxcx5 : "CardClub$Offers" ≠ "java/lang/invoke/MethodHandle" ∧ "CardClub$Offers" ≠ "java/lang/invoke/VarHandle" := by decide +kernel
theorem jxcy5 : plainName "CardClub$Offers" = true := by decide +kernel
theorem jxcx6 : "CardClub$RingSearch" ≠ "java/lang/invoke/MethodHandle" ∧ "CardClub$RingSearch" ≠ "java/lang/invoke/VarHandle" := by decide +kernel
theorem jxcy6 : plainName "CardClub$RingSearch" = true := by decide +kernel
theorem jxcx7 : "CardClub$RuleBook" ≠ "java/lang/invoke/MethodHandle" ∧ "CardClub$RuleBook" ≠ "java/lang/invoke/VarHandle" := by decide +kernel
theorem jxcy7 : plainName "CardClub$RuleBook" = true := by decide +kernel
theorem jxcx8 : "CardClub$Tally" ≠ "java/lang/invoke/MethodHandle" ∧ "CardClub$Tally" ≠ "java/lang/invoke/VarHandle" := by decide +kernel
theorem jxcy8 : plainName "CardClub$Tally" = true := by decide +kernel
theorem jxcx9 : "CardClub$Tape" ≠ "java/lang/invoke/MethodHandle" ∧ "CardClub$Tape" ≠ "java/lang/invoke/VarHandle" := by decide +kernel
theorem jxcy9 : plainName "CardClub$Tape" = true := by decide +kernel
theorem jxcx10 : "CardClub$Tariffs" ≠ "java/lang/invoke/MethodHandle" ∧ "CardClub$Tariffs" ≠ "java/lang/invoke/VarHandle" := by decide +kernel
theorem jxcy10 : plainName "CardClub$Tariffs" = true := by decide +kernel
theorem jxcx11 : "CardClub$Wishes" ≠ "java/lang/invoke/MethodHandle" ∧ "CardClub$Wishes" ≠ "java/lang/invoke/VarHandle" := by decide +kernel
theorem jxcy11 : plainName "CardClub$Wishes" = true := by decide +kernel
theorem jxcx12 : "CardClubModel" ≠ "java/lang/invoke/MethodHandle" ∧ "CardClubModel" ≠ "java/lang/invoke/VarHandle" := by decide +kernel
theorem jxcy12 : plainName "CardClubModel" = true := by decide +kernel
theorem jxcx13 : "java/lang/Integer" ≠ "java/lang/invoke/MethodHandle" ∧ "java/lang/Integer" ≠ "java/lang/invoke/VarHandle" := by decide +kernel
theorem jxcy13 : plainName "java/lang/Integer" = true := by decide +kernel
theorem jxcx14 : "java/lang/Math" ≠ "java/lang/invoke/MethodHandle" ∧ "java/lang/Math" ≠ "java/lang/invoke/VarHandle" := by decide +kernel
theorem jxcx15 : "java/lang/String" ≠ "java/lang/invoke/MethodHandle" ∧ "java/lang/String" ≠ "java/lang/invoke/VarHandle" := by decide +kernel
theorem jxcy15 : plainName "java/lang/String" = true := by decide +kernel
theorem jxcx16 : "java/lang/StringLatin1" ≠ "java/lang/invoke/MethodHandle" ∧ "java/lang/StringLatin1" ≠ "java/lang/invoke/VarHandle" := by decide +kernel
theorem jxcy16 : plainName "java/lang/StringLatin1" = true := by decide +kernel
theorem jxcx17 : "java/lang/StringUTF16" ≠ "java/lang/invoke/MethodHandle" ∧ "java/lang/StringUTF16" ≠ "java/lang/invoke/VarHandle" := by decide +kernel
theorem jxcy17 : plainName "java/lang/StringUTF16" = true := by decide +kernel
theorem jxcx18 : "jdk/internal/util/Preconditions" ≠ "java/lang/invoke/MethodHandle" ∧ "jdk/internal/util/Preconditions" ≠ "java/lang/invoke/VarHandle" := by decide +kernel
theorem jxcy18 : plainName "jdk/internal/util/Preconditions" = true := by decide +kernel
theorem jxds0 : (parseMethodDescriptor "()B").map (fun d => d.parameters.length + 1) = some 1 := by decide +kernel
theorem jxds1 : (parseMethodDescriptor "()I").map (fun d => d.parameters.length + 1) = some 1 := by decide +kernel
theorem jxds2 : (parseMethodDescriptor "()V").map (fun d => d.parameters.length + 1) = some 1 := by decide +kernel
theorem jxds3 : (parseMethodDescriptor "()Z").map (fun d => d.parameters.length + 1) = some 1 := by decide +kernel
theorem jxds4 : (parseMethodDescriptor "(C)Z").map (fun d => d.parameters.length + 1) = some 2 := by decide +kernel
theorem jxds5 : (parseMethodDescriptor "(I)C").map (fun d => d.parameters.length + 1) = some 2 := by decide +kernel
theorem jxds6 : (parseMethodDescriptor "(I)I").map (fun d => d.parameters.length) = some 1 := by decide +kernel
theorem jxds7 : (parseMethodDescriptor "(I)I").map (fun d => d.parameters.length + 1) = some 2 := by decide +kernel
theorem jxds8 : (parseMethodDescriptor "(I)J").map (fun d => d.parameters.length + 1) = some 2 := by decide +kernel
theorem jxds9 : (parseMethodDescriptor "(I)V").map (fun d => d.parameters.length + 1) = some 2 := by decide +kernel
theorem jxds10 : (parseMethodDescriptor "(I)Z").map (fun d => d.parameters.length) = some 1 := by decide +kernel
theorem jxds11 : (parseMethodDescriptor "(I)Z").map (fun d => d.parameters.length + 1) = some 2 := by decide +kernel
theorem jxds12 : (parseMethodDescriptor "(II)I").map (fun d => d.parameters.length) = some 2 := by decide +kernel
theorem jxds13 : (parseMethodDescriptor "(II)I").map (fun d => d.parameters.length + 1) = some 3 := by decide +kernel
theorem jxds14 : (parseMethodDescriptor "(II)V").map (fun d => d.parameters.length) = some 2 := by decide +kernel
theorem jxds15 : (parseMethodDescriptor "(II)V").map (fun d => d.parameters.length + 1) = some 3 := by decide +kernel
theorem jxds16 : (parseMethodDescriptor "(II)Z").map (fun d => d.parameters.length + 1) = some 3 := by decide +kernel
theorem jxds17 : (parseMethodDescriptor "(III)I").map (fun d => d.parameters.length + 1) = some 4 := by decide +kernel
theorem jxds18 : (parseMethodDescriptor "(III)V").map (fun d => d.parameters.length + 1) = some 4 := by decide +kernel
theorem jxds19 : (parseMethodDescriptor "(III)Z").map (fun d => d.parameters.length) = some 3 := by decide +kernel
theorem jxds20 : (parseMethodDescriptor "(III)Z").map (fun d => d.parameters.length + 1) = some 4 := by decide +kernel
theorem jxds21 : (parseMethodDescriptor "(IIII)I").map (fun d => d.parameters.length + 1) = some 5 := by decide +kernel
theorem jxds22 : (parseMethodDescriptor "(IIII)V").map (fun d => d.parameters.length + 1) = some 5 := by decide +kernel
theorem jxds23 : (parseMethodDescriptor "(IIIII)I").map (fun d => d.parameters.length + 1) = some 6 := by decide +kernel
theorem jxds24 : (parseMethodDescriptor "(IIIII)V").map (fun d => d.parameters.length + 1) = some 6 := by decide +kernel
theorem jxds25 : (parseMethodDescriptor "(IIIII)Z").map (fun d => d.parameters.length + 1) = some 6 := by decide +kernel
theorem jxds26 : (parseMethodDescriptor "(IIJ)Z").map (fun d => d.parameters.length + 1) = some 4 := by decide +kernel
theorem jxds27 : (parseMethodDescriptor "(IILjava/util/function/BiFunction;)I").map (fun d => d.parameters.length) = some 3 := by decide +kernel
theorem jxds28 : (parseMethodDescriptor "(IJ)J").map (fun d => d.parameters.length + 1) = some 3 := by decide +kernel
theorem jxds29 : (parseMethodDescriptor "(I[B)V").map (fun d => d.parameters.length) = some 2 := by decide +kernel
theorem jxds30 : (parseMethodDescriptor "(J)V").map (fun d => d.parameters.length + 1) = some 2 := by decide +kernel
theorem jxds31 : (parseMethodDescriptor "(JJ)J").map (fun d => d.parameters.length) = some 2 := by decide +kernel
theorem jxds32 : (parseMethodDescriptor "(LCardClub$Cards;I)V").map (fun d => d.parameters.length + 1) = some 3 := by decide +kernel
theorem jxds33 : (parseMethodDescriptor "(LCardClub$Members;)V").map (fun d => d.parameters.length + 1) = some 2 := by decide +kernel
theorem jxds34 : (parseMethodDescriptor "(LCardClub$Members;[ILCardClub$Tape;)V").map (fun d => d.parameters.length + 1) = some 4 := by decide +kernel
theorem jxds35 : (parseMethodDescriptor "(LCardClub$Offers;LCardClub$Members;)V").map (fun d => d.parameters.length + 1) = some 3 := by decide +kernel
theorem jxds36 : (parseMethodDescriptor "(LCardClub$Tape;)I").map (fun d => d.parameters.length) = some 1 := by decide +kernel
theorem jxds37 : (parseMethodDescriptor "(LCardClub$Tape;)I").map (fun d => d.parameters.length + 1) = some 2 := by decide +kernel
theorem jxds38 : (parseMethodDescriptor "(LCardClub$Tape;)V").map (fun d => d.parameters.length + 1) = some 2 := by decide +kernel
theorem jxds39 : (parseMethodDescriptor "(LCardClub$Tape;I)I").map (fun d => d.parameters.length + 1) = some 3 := by decide +kernel
theorem jxds40 : (parseMethodDescriptor "(Ljava/lang/String;)Z").map (fun d => d.parameters.length + 1) = some 2 := by decide +kernel
theorem jxds41 : (parseMethodDescriptor "([B)I").map (fun d => d.parameters.length) = some 1 := by decide +kernel
theorem jxds42 : (parseMethodDescriptor "([BI)C").map (fun d => d.parameters.length) = some 2 := by decide +kernel
theorem jxds43 : (parseMethodDescriptor "([III)I").map (fun d => d.parameters.length) = some 3 := by decide +kernel
set_option maxRecDepth 100000 in
theorem jxchkM_0 : jxchkM 0 = true := jxM_2 rfl rfl (C := "CardClub$Cards") rfl (jxat_mk (jxpc1 (j := 132) rfl) rfl) (jxat_mk (jxpc1 (j := 6) rfl) rfl) (plainFor_of_name (x := jxnm 0) jxcy1) jxcx1 rfl (jxat_mk (jxpc1 (j := 131) rfl) rfl) rfl jxds33 rfl rfl rfl
set_option maxRecDepth 100000 in
theorem jxchkM_1 : jxchkM 1 = true := jxM_1 rfl rfl (C := "CardClub$Cards") rfl (jxat_mk (jxpc2 (j := 215) rfl) rfl) (jxat_mk (jxpc1 (j := 6) rfl) rfl) (plainFor_of_name (x := jxnm 1) jxcy1) jxcx1 rfl (jxat_mk (jxpc2 (j := 213) rfl) rfl) (jxat_mk (jxpc2 (j := 214) rfl) rfl) jxds1 (Or.inr ⟨rfl, rfl⟩) rfl
set_option maxRecDepth 100000 in
theorem jxchkM_2 : jxchkM 2 = true := jxM_1 rfl rfl (C := "CardClub$Cards") rfl (jxat_mk (jxpc6 (j := 91) rfl) rfl) (jxat_mk (jxpc1 (j := 6) rfl) rfl) (plainFor_of_name (x := jxnm 2) jxcy1) jxcx1 rfl (jxat_mk (jxpc6 (j := 89) rfl) rfl) (jxat_mk (jxpc6 (j := 90) rfl) rfl) jxds1 (Or.inr ⟨rfl, rfl⟩) rfl
set_option maxRecDepth 100000 in
theorem jxchkM_3 : jxchkM 3 = true := jxM_1 rfl rfl (C := "CardClub$Cards") rfl (jxat_mk (jxpc2 (j := 238) rfl) rfl) (jxat_mk (jxpc1 (j := 6) rfl) rfl) (plainFor_of_name (x := jxnm 3) jxcy1) jxcx1 rfl (jxat_mk (jxpc2 (j := 236) rfl) rfl) (jxat_mk (jxpc2 (j := 237) rfl) rfl) jxds11 (Or.inr ⟨rfl, rfl⟩) rfl
set_option maxRecDepth 100000 in
theorem jxchkM_4 : jxchkM 4 = true := jxM_1 rfl rfl (C := "CardClub$Cards") rfl (jxat_mk (jxpc4 (j := 47) rfl) rfl) (jxat_mk (jxpc1 (j := 6) rfl) rfl) (plainFor_of_name (x := jxnm 4) jxcy1) jxcx1 rfl (jxat_mk (jxpc4 (j := 45) rfl) rfl) (jxat_mk (jxpc4 (j := 46) rfl) rfl) jxds11 (Or.inr ⟨rfl, rfl⟩) rfl
set_option maxRecDepth 100000 in
theorem jxchkM_5 : jxchkM 5 = true := jxM_1 rfl rfl (C := "CardClub$Cards") rfl (jxat_mk (jxpc4 (j := 174) rfl) rfl) (jxat_mk (jxpc1 (j := 6) rfl) rfl) (plainFor_of_name (x := jxnm 5) jxcy1) jxcx1 rfl (jxat_mk (jxpc4 (j := 172) rfl) rfl) (jxat_mk (jxpc4 (j := 173) rfl) rfl) jxds23 (Or.inr ⟨rfl, rfl⟩) rfl
set_option maxRecDepth 100000 in
theorem jxchkM_6 : jxchkM 6 = true := jxM_1 rfl rfl (C := "CardClub$Cards") rfl (jxat_mk (jxpc3 (j := 6) rfl) rfl) (jxat_mk (jxpc1 (j := 6) rfl) rfl) (plainFor_of_name (x := jxnm 6) jxcy1) jxcx1 rfl (jxat_mk (jxpc3 (j := 4) rfl) rfl) (jxat_mk (jxpc3 (j := 5) rfl) rfl) jxds7 (Or.inr ⟨rfl, rfl⟩) rfl
set_option maxRecDepth 100000 in
theorem jxchkM_7 : jxchkM 7 = true := jxM_1 rfl rfl (C := "CardClub$Cards") rfl (jxat_mk (jxpc2 (j := 219) rfl) rfl) (jxat_mk (jxpc1 (j := 6) rfl) rfl) (plainFor_of_name (x := jxnm 7) jxcy1) jxcx1 rfl (jxat_mk (jxpc2 (j := 217) rfl) rfl) (jxat_mk (jxpc2 (j := 218) rfl) rfl) jxds7 (Or.inr ⟨rfl, rfl⟩) rfl
set_option maxRecDepth 100000 in
theorem jxchkM_8 : jxchkM 8 = true := jxM_1 rfl rfl (C := "CardClub$Cards") rfl (jxat_mk (jxpc4 (j := 59) rfl) rfl) (jxat_mk (jxpc1 (j := 6) rfl) rfl) (plainFor_of_name (x := jxnm 8) jxcy1) jxcx1 rfl (jxat_mk (jxpc4 (j := 57) rfl) rfl) (jxat_mk (jxpc4 (j := 58) rfl) rfl) jxds7 (Or.inr ⟨rfl, rfl⟩) rfl
set_option maxRecDepth 100000 in
theorem jxchkM_9 : jxchkM 9 = true := jxM_1 rfl rfl (C := "CardClub$Cards") rfl (jxat_mk (jxpc5 (j := 18) rfl) rfl) (jxat_mk (jxpc1 (j := 6) rfl) rfl) (plainFor_of_name (x := jxnm 9) jxcy1) jxcx1 rfl (jxat_mk (jxpc5 (j := 16) rfl) rfl) (jxat_mk (jxpc5 (j := 17) rfl) rfl) jxds7 (Or.inr ⟨rfl, rfl⟩) rfl
set_option maxRecDepth 100000 in
theorem jxchkM_10 : jxchkM 10 = true := jxM_1 rfl rfl (C := "CardClub$Cards") rfl (jxat_mk (jxpc5 (j := 23) rfl) rfl) (jxat_mk (jxpc1 (j := 6) rfl) rfl) (plainFor_of_name (x := jxnm 10) jxcy1) jxcx1 rfl (jxat_mk (jxpc5 (j := 21) rfl) rfl) (jxat_mk (jxpc5 (j := 22) rfl) rfl) jxds7 (Or.inr ⟨rfl, rfl⟩) rfl
set_option maxRecDepth 100000 in
theorem jxchkM_11 : jxchkM 11 = true := jxM_1 rfl rfl (C := "CardClub$Cards") rfl (jxat_mk (jxpc5 (j := 27) rfl) rfl) (jxat_mk (jxpc1 (j := 6) rfl) rfl) (plainFor_of_name (x := jxnm 11) jxcy1) jxcx1 rfl (jxat_mk (jxpc5 (j := 25) rfl) rfl) (jxat_mk (jxpc5 (j := 26) rfl) rfl) jxds7 (Or.inr ⟨rfl, rfl⟩) rfl
set_option maxRecDepth 100000 in
theorem jxchkM_12 : jxchkM 12 = true := jxM_1 rfl rfl (C := "CardClub$Cards") rfl (jxat_mk (jxpc2 (j := 230) rfl) rfl) (jxat_mk (jxpc1 (j := 6) rfl) rfl) (plainFor_of_name (x := jxnm 12) jxcy1) jxcx1 rfl (jxat_mk (jxpc2 (j := 228) rfl) rfl) (jxat_mk (jxpc2 (j := 229) rfl) rfl) jxds7 (Or.inr ⟨rfl, rfl⟩) rfl
set_option maxRecDepth 100000 in
theorem jxchkM_13 : jxchkM 13 = true := jxM_1 rfl rfl (C := "CardClub$Cards") rfl (jxat_mk (jxpc3 (j := 2) rfl) rfl) (jxat_mk (jxpc1 (j := 6) rfl) rfl) (plainFor_of_name (x := jxnm 13) jxcy1) jxcx1 rfl (jxat_mk (jxpc3 (j := 0) rfl) rfl) (jxat_mk (jxpc3 (j := 1) rfl) rfl) jxds15 (Or.inr ⟨rfl, rfl⟩) rfl
set_option maxRecDepth 100000 in
theorem jxchkM_14 : jxchkM 14 = true := jxM_1 rfl rfl (C := "CardClub$Cards") rfl (jxat_mk (jxpc4 (j := 236) rfl) rfl) (jxat_mk (jxpc1 (j := 6) rfl) rfl) (plainFor_of_name (x := jxnm 14) jxcy1) jxcx1 rfl (jxat_mk (jxpc4 (j := 234) rfl) rfl) (jxat_mk (jxpc4 (j := 235) rfl) rfl) jxds20 (Or.inr ⟨rfl, rfl⟩) rfl
set_option maxRecDepth 100000 in
theorem jxchkM_15 : jxchkM 15 = true := jxM_1 rfl rfl (C := "CardClub$Cards") rfl (jxat_mk (jxpc5 (j := 9) rfl) rfl) (jxat_mk (jxpc1 (j := 6) rfl) rfl) (plainFor_of_name (x := jxnm 15) jxcy1) jxcx1 rfl (jxat_mk (jxpc5 (j := 7) rfl) rfl) (jxat_mk (jxpc5 (j := 8) rfl) rfl) jxds16 (Or.inr ⟨rfl, rfl⟩) rfl
set_option maxRecDepth 100000 in
theorem jxchkM_16 : jxchkM 16 = true := jxM_1 rfl rfl (C := "CardClub$Cards") rfl (jxat_mk (jxpc5 (j := 1) rfl) rfl) (jxat_mk (jxpc1 (j := 6) rfl) rfl) (plainFor_of_name (x := jxnm 16) jxcy1) jxcx1 rfl (jxat_mk (jxpc5 (j := 0) rfl) rfl) (jxat_mk (jxpc0 (j := 27) rfl) rfl) jxds20 (Or.inr ⟨rfl, rfl⟩) rfl
set_option maxRecDepth 100000 in
theorem jxchkM_17 : jxchkM 17 = true := jxM_1 rfl rfl (C := "CardClub$Cards") rfl (jxat_mk (jxpc2 (j := 226) rfl) rfl) (jxat_mk (jxpc1 (j := 6) rfl) rfl) (plainFor_of_name (x := jxnm 17) jxcy1) jxcx1 rfl (jxat_mk (jxpc2 (j := 224) rfl) rfl) (jxat_mk (jxpc2 (j := 225) rfl) rfl) jxds13 (Or.inr ⟨rfl, rfl⟩) rfl
set_option maxRecDepth 100000 in
theorem jxchkM_18 : jxchkM 18 = true := jxM_1 rfl rfl (C := "CardClub$Cards") rfl (jxat_mk (jxpc5 (j := 35) rfl) rfl) (jxat_mk (jxpc1 (j := 6) rfl) rfl) (plainFor_of_name (x := jxnm 18) jxcy1) jxcx1 rfl (jxat_mk (jxpc5 (j := 33) rfl) rfl) (jxat_mk (jxpc5 (j := 34) rfl) rfl) jxds17 (Or.inr ⟨rfl, rfl⟩) rfl
set_option maxRecDepth 100000 in
theorem jxchkM_19 : jxchkM 19 = true := jxM_1 rfl rfl (C := "CardClub$Cards") rfl (jxat_mk (jxpc2 (j := 234) rfl) rfl) (jxat_mk (jxpc1 (j := 6) rfl) rfl) (plainFor_of_name (x := jxnm 19) jxcy1) jxcx1 rfl (jxat_mk (jxpc2 (j := 233) rfl) rfl) (jxat_mk (jxpc0 (j := 1) rfl) rfl) jxds21 (Or.inr ⟨rfl, rfl⟩) rfl
set_option maxRecDepth 100000 in
theorem jxchkM_20 : jxchkM 20 = true := jxM_1 rfl rfl (C := "CardClub$Cards") rfl (jxat_mk (jxpc4 (j := 93) rfl) rfl) (jxat_mk (jxpc1 (j := 6) rfl) rfl) (plainFor_of_name (x := jxnm 20) jxcy1) jxcx1 rfl (jxat_mk (jxpc4 (j := 91) rfl) rfl) (jxat_mk (jxpc4 (j := 92) rfl) rfl) jxds8 (Or.inr ⟨rfl, rfl⟩) rfl
set_option maxRecDepth 100000 in
theorem jxchkM_21 : jxchkM 21 = true := jxM_1 rfl rfl (C := "CardClub$Cards") rfl (jxat_mk (jxpc5 (j := 52) rfl) rfl) (jxat_mk (jxpc1 (j := 6) rfl) rfl) (plainFor_of_name (x := jxnm 21) jxcy1) jxcx1 rfl (jxat_mk (jxpc5 (j := 50) rfl) rfl) (jxat_mk (jxpc5 (j := 51) rfl) rfl) jxds13 (Or.inr ⟨rfl, rfl⟩) rfl
set_option maxRecDepth 100000 in
theorem jxchkM_22 : jxchkM 22 = true := jxM_1 rfl rfl (C := "CardClub$Cards") rfl (jxat_mk (jxpc4 (j := 155) rfl) rfl) (jxat_mk (jxpc1 (j := 6) rfl) rfl) (plainFor_of_name (x := jxnm 22) jxcy1) jxcx1 rfl (jxat_mk (jxpc4 (j := 153) rfl) rfl) (jxat_mk (jxpc4 (j := 154) rfl) rfl) jxds17 (Or.inr ⟨rfl, rfl⟩) rfl
set_option maxRecDepth 100000 in
theorem jxchkM_23 : jxchkM 23 = true := jxM_1 rfl rfl (C := "CardClub$Cards") rfl (jxat_mk (jxpc4 (j := 159) rfl) rfl) (jxat_mk (jxpc1 (j := 6) rfl) rfl) (plainFor_of_name (x := jxnm 23) jxcy1) jxcx1 rfl (jxat_mk (jxpc4 (j := 157) rfl) rfl) (jxat_mk (jxpc4 (j := 158) rfl) rfl) jxds15 (Or.inr ⟨rfl, rfl⟩) rfl
set_option maxRecDepth 100000 in
theorem jxchkM_24 : jxchkM 24 = true := jxM_1 rfl rfl (C := "CardClub$Cards") rfl (jxat_mk (jxpc4 (j := 164) rfl) rfl) (jxat_mk (jxpc1 (j := 6) rfl) rfl) (plainFor_of_name (x := jxnm 24) jxcy1) jxcx1 rfl (jxat_mk (jxpc4 (j := 163) rfl) rfl) (jxat_mk (jxpc0 (j := 23) rfl) rfl) jxds9 (Or.inr ⟨rfl, rfl⟩) rfl
set_option maxRecDepth 100000 in
theorem jxchkM_25 : jxchkM 25 = true := jxM_1 rfl rfl (C := "CardClub$Cards") rfl (jxat_mk (jxpc5 (j := 62) rfl) rfl) (jxat_mk (jxpc1 (j := 6) rfl) rfl) (plainFor_of_name (x := jxnm 25) jxcy1) jxcx1 rfl (jxat_mk (jxpc5 (j := 60) rfl) rfl) (jxat_mk (jxpc5 (j := 61) rfl) rfl) jxds1 (Or.inr ⟨rfl, rfl⟩) rfl
set_option maxRecDepth 100000 in
theorem jxchkM_26 : jxchkM 26 = true := jxM_1 rfl rfl (C := "CardClub$Cards") rfl (jxat_mk (jxpc5 (j := 66) rfl) rfl) (jxat_mk (jxpc1 (j := 6) rfl) rfl) (plainFor_of_name (x := jxnm 26) jxcy1) jxcx1 rfl (jxat_mk (jxpc5 (j := 64) rfl) rfl) (jxat_mk (jxpc5 (j := 65) rfl) rfl) jxds1 (Or.inr ⟨rfl, rfl⟩) rfl
set_option maxRecDepth 100000 in
theorem jxchkM_27 : jxchkM 27 = true := jxM_1 rfl rfl (C := "CardClub$Cards") rfl (jxat_mk (jxpc5 (j := 70) rfl) rfl) (jxat_mk (jxpc1 (j := 6) rfl) rfl) (plainFor_of_name (x := jxnm 27) jxcy1) jxcx1 rfl (jxat_mk (jxpc5 (j := 68) rfl) rfl) (jxat_mk (jxpc5 (j := 69) rfl) rfl) jxds1 (Or.inr ⟨rfl, rfl⟩) rfl
set_option maxRecDepth 100000 in
theorem jxchkM_28 : jxchkM 28 = true := jxM_2 rfl rfl (C := "CardClub$Drawer") rfl (jxat_mk (jxpc2 (j := 99) rfl) rfl) (jxat_mk (jxpc1 (j := 12) rfl) rfl) (plainFor_of_name (x := jxnm 28) jxcy2) jxcx2 rfl (jxat_mk (jxpc2 (j := 98) rfl) rfl) rfl jxds2 rfl rfl rfl
set_option maxRecDepth 100000 in
theorem jxchkM_29 : jxchkM 29 = true := jxM_1 rfl rfl (C := "CardClub$Drawer") rfl (jxat_mk (jxpc6 (j := 30) rfl) rfl) (jxat_mk (jxpc1 (j := 12) rfl) rfl) (plainFor_of_name (x := jxnm 29) jxcy2) jxcx2 rfl (jxat_mk (jxpc6 (j := 28) rfl) rfl) (jxat_mk (jxpc6 (j := 29) rfl) rfl) jxds20 (Or.inr ⟨rfl, rfl⟩) rfl
set_option maxRecDepth 100000 in
theorem jxchkM_30 : jxchkM 30 = true := jxM_1 rfl rfl (C := "CardClub$Drawer") rfl (jxat_mk (jxpc6 (j := 107) rfl) rfl) (jxat_mk (jxpc1 (j := 12) rfl) rfl) (plainFor_of_name (x := jxnm 30) jxcy2) jxcx2 rfl (jxat_mk (jxpc6 (j := 105) rfl) rfl) (jxat_mk (jxpc6 (j := 106) rfl) rfl) jxds7 (Or.inr ⟨rfl, rfl⟩) rfl
set_option maxRecDepth 100000 in
theorem jxchkM_31 : jxchkM 31 = true := jxM_1 rfl rfl (C := "CardClub$Drawer") rfl (jxat_mk (jxpc6 (j := 111) rfl) rfl) (jxat_mk (jxpc1 (j := 12) rfl) rfl) (plainFor_of_name (x := jxnm 31) jxcy2) jxcx2 rfl (jxat_mk (jxpc6 (j := 109) rfl) rfl) (jxat_mk (jxpc6 (j := 110) rfl) rfl) jxds7 (Or.inr ⟨rfl, rfl⟩) rfl
set_option maxRecDepth 100000 in
theorem jxchkM_32 : jxchkM 32 = true := jxM_1 rfl rfl (C := "CardClub$Drawer") rfl (jxat_mk (jxpc6 (j := 77) rfl) rfl) (jxat_mk (jxpc1 (j := 12) rfl) rfl) (plainFor_of_name (x := jxnm 32) jxcy2) jxcx2 rfl (jxat_mk (jxpc6 (j := 75) rfl) rfl) (jxat_mk (jxpc6 (j := 76) rfl) rfl) jxds7 (Or.inr ⟨rfl, rfl⟩) rfl
set_option maxRecDepth 100000 in
theorem jxchkM_33 : jxchkM 33 = true := jxM_1 rfl rfl (C := "CardClub$Drawer") rfl (jxat_mk (jxpc6 (j := 39) rfl) rfl) (jxat_mk (jxpc1 (j := 12) rfl) rfl) (plainFor_of_name (x := jxnm 33) jxcy2) jxcx2 rfl (jxat_mk (jxpc6 (j := 37) rfl) rfl) (jxat_mk (jxpc6 (j := 38) rfl) rfl) jxds7 (Or.inr ⟨rfl, rfl⟩) rfl
set_option maxRecDepth 100000 in
theorem jxchkM_34 : jxchkM 34 = true := jxM_1 rfl rfl (C := "CardClub$Drawer") rfl (jxat_mk (jxpc6 (j := 43) rfl) rfl) (jxat_mk (jxpc1 (j := 12) rfl) rfl) (plainFor_of_name (x := jxnm 34) jxcy2) jxcx2 rfl (jxat_mk (jxpc6 (j := 42) rfl) rfl) (jxat_mk (jxpc0 (j := 43) rfl) rfl) jxds1 (Or.inr ⟨rfl, rfl⟩) rfl
set_option maxRecDepth 100000 in
theorem jxchkM_35 : jxchkM 35 = true := jxM_1 rfl rfl (C := "CardClub$Drawer") rfl (jxat_mk (jxpc6 (j := 49) rfl) rfl) (jxat_mk (jxpc1 (j := 12) rfl) rfl) (plainFor_of_name (x := jxnm 35) jxcy2) jxcx2 rfl (jxat_mk (jxpc6 (j := 48) rfl) rfl) (jxat_mk (jxpc0 (j := 44) rfl) rfl) jxds9 (Or.inr ⟨rfl, rfl⟩) rfl
set_option maxRecDepth 100000 in
theorem jxchkM_36 : jxchkM 36 = true := jxM_1 rfl rfl (C := "CardClub$Drawer") rfl (jxat_mk (jxpc6 (j := 54) rfl) rfl) (jxat_mk (jxpc1 (j := 12) rfl) rfl) (plainFor_of_name (x := jxnm 36) jxcy2) jxcx2 rfl (jxat_mk (jxpc6 (j := 53) rfl) rfl) (jxat_mk (jxpc0 (j := 45) rfl) rfl) jxds15 (Or.inr ⟨rfl, rfl⟩) rfl
set_option maxRecDepth 100000 in
theorem jxchkM_37 : jxchkM 37 = true := jxM_1 rfl rfl (C := "CardClub$Drawer") rfl (jxat_mk (jxpc6 (j := 58) rfl) rfl) (jxat_mk (jxpc1 (j := 12) rfl) rfl) (plainFor_of_name (x := jxnm 37) jxcy2) jxcx2 rfl (jxat_mk (jxpc6 (j := 57) rfl) rfl) (jxat_mk (jxpc0 (j := 46) rfl) rfl) jxds18 (Or.inr ⟨rfl, rfl⟩) rfl
set_option maxRecDepth 100000 in
theorem jxchkM_38 : jxchkM 38 = true := jxM_1 rfl rfl (C := "CardClub$Drawer") rfl (jxat_mk (jxpc6 (j := 69) rfl) rfl) (jxat_mk (jxpc1 (j := 12) rfl) rfl) (plainFor_of_name (x := jxnm 38) jxcy2) jxcx2 rfl (jxat_mk (jxpc6 (j := 68) rfl) rfl) (jxat_mk (jxpc0 (j := 47) rfl) rfl) jxds30 (Or.inr ⟨rfl, rfl⟩) rfl
set_option maxRecDepth 100000 in
theorem jxchkM_39 : jxchkM 39 = true := jxM_0 rfl rfl (C := "CardClub$Drawer") rfl (jxat_mk (jxpc6 (j := 62) rfl) rfl) (jxat_mk (jxpc1 (j := 12) rfl) rfl) (plainFor_of_name (x := jxnm 39) jxcy2) jxcx2 rfl (jxat_mk (jxpc6 (j := 61) rfl) rfl) jxds6 rfl
set_option maxRecDepth 100000 in
theorem jxchkM_40 : jxchkM 40 = true := jxM_2 rfl rfl (C := "CardClub$Matching") rfl (jxat_mk (jxpc1 (j := 212) rfl) rfl) (jxat_mk (jxpc1 (j := 8) rfl) rfl) (plainFor_of_name (x := jxnm 40) jxcy3) jxcx3 rfl (jxat_mk (jxpc1 (j := 211) rfl) rfl) rfl jxds2 rfl rfl rfl
set_option maxRecDepth 100000 in
theorem jxchkM_41 : jxchkM 41 = true := jxM_1 rfl rfl (C := "CardClub$Matching") rfl (jxat_mk (jxpc4 (j := 194) rfl) rfl) (jxat_mk (jxpc1 (j := 8) rfl) rfl) (plainFor_of_name (x := jxnm 41) jxcy3) jxcx3 rfl (jxat_mk (jxpc4 (j := 192) rfl) rfl) (jxat_mk (jxpc4 (j := 193) rfl) rfl) jxds9 (Or.inr ⟨rfl, rfl⟩) rfl
set_option maxRecDepth 100000 in
theorem jxchkM_42 : jxchkM 42 = true := jxM_1 rfl rfl (C := "CardClub$Matching") rfl (jxat_mk (jxpc4 (j := 205) rfl) rfl) (jxat_mk (jxpc1 (j := 8) rfl) rfl) (plainFor_of_name (x := jxnm 42) jxcy3) jxcx3 rfl (jxat_mk (jxpc4 (j := 204) rfl) rfl) (jxat_mk (jxpc0 (j := 25) rfl) rfl) jxds2 (Or.inr ⟨rfl, rfl⟩) rfl
set_option maxRecDepth 100000 in
theorem jxchkM_43 : jxchkM 43 = true := jxM_1 rfl rfl (C := "CardClub$Matching") rfl (jxat_mk (jxpc4 (j := 209) rfl) rfl) (jxat_mk (jxpc1 (j := 8) rfl) rfl) (plainFor_of_name (x := jxnm 43) jxcy3) jxcx3 rfl (jxat_mk (jxpc4 (j := 207) rfl) rfl) (jxat_mk (jxpc4 (j := 208) rfl) rfl) jxds18 (Or.inr ⟨rfl, rfl⟩) rfl
set_option maxRecDepth 100000 in
theorem jxchkM_44 : jxchkM 44 = true := jxM_1 rfl rfl (C := "CardClub$Matching") rfl (jxat_mk (jxpc4 (j := 216) rfl) rfl) (jxat_mk (jxpc1 (j := 8) rfl) rfl) (plainFor_of_name (x := jxnm 44) jxcy3) jxcx3 rfl (jxat_mk (jxpc4 (j := 214) rfl) rfl) (jxat_mk (jxpc4 (j := 215) rfl) rfl) jxds9 (Or.inr ⟨rfl, rfl⟩) rfl
set_option maxRecDepth 100000 in
theorem jxchkM_45 : jxchkM 45 = true := jxM_1 rfl rfl (C := "CardClub$Matching") rfl (jxat_mk (jxpc4 (j := 220) rfl) rfl) (jxat_mk (jxpc1 (j := 8) rfl) rfl) (plainFor_of_name (x := jxnm 45) jxcy3) jxcx3 rfl (jxat_mk (jxpc4 (j := 219) rfl) rfl) (jxat_mk (jxpc0 (j := 26) rfl) rfl) jxds18 (Or.inr ⟨rfl, rfl⟩) rfl
set_option maxRecDepth 100000 in
theorem jxchkM_46 : jxchkM 46 = true := jxM_1 rfl rfl (C := "CardClub$Matching") rfl (jxat_mk (jxpc4 (j := 224) rfl) rfl) (jxat_mk (jxpc1 (j := 8) rfl) rfl) (plainFor_of_name (x := jxnm 46) jxcy3) jxcx3 rfl (jxat_mk (jxpc4 (j := 222) rfl) rfl) (jxat_mk (jxpc4 (j := 223) rfl) rfl) jxds2 (Or.inr ⟨rfl, rfl⟩) rfl
set_option maxRecDepth 100000 in
theorem jxchkM_47 : jxchkM 47 = true := jxM_1 rfl rfl (C := "CardClub$Matching") rfl (jxat_mk (jxpc4 (j := 228) rfl) rfl) (jxat_mk (jxpc1 (j := 8) rfl) rfl) (plainFor_of_name (x := jxnm 47) jxcy3) jxcx3 rfl (jxat_mk (jxpc4 (j := 226) rfl) rfl) (jxat_mk (jxpc4 (j := 227) rfl) rfl) jxds7 (Or.inr ⟨rfl, rfl⟩) rfl
set_option maxRecDepth 100000 in
theorem jxchkM_48 : jxchkM 48 = true := jxM_0 rfl rfl (C := "CardClub$Matching") rfl (jxat_mk (jxpc4 (j := 201) rfl) rfl) (jxat_mk (jxpc1 (j := 8) rfl) rfl) (plainFor_of_name (x := jxnm 48) jxcy3) jxcx3 rfl (jxat_mk (jxpc4 (j := 200) rfl) rfl) jxds6 rfl
set_option maxRecDepth 100000 in
theorem jxchkM_49 : jxchkM 49 = true := jxM_2 rfl rfl (C := "CardClub$Members") rfl (jxat_mk (jxpc1 (j := 52) rfl) rfl) (jxat_mk (jxpc1 (j := 3) rfl) rfl) (plainFor_of_name (x := jxnm 49) jxcy4) jxcx4 rfl (jxat_mk (jxpc1 (j := 51) rfl) rfl) rfl jxds2 rfl rfl rfl
set_option maxRecDepth 100000 in
theorem jxchkM_50 : jxchkM 50 = true := jxM_1 rfl rfl (C := "CardClub$Members") rfl (jxat_mk (jxpc4 (j := 101) rfl) rfl) (jxat_mk (jxpc1 (j := 3) rfl) rfl) (plainFor_of_name (x := jxnm 50) jxcy4) jxcx4 rfl (jxat_mk (jxpc4 (j := 99) rfl) rfl) (jxat_mk (jxpc4 (j := 100) rfl) rfl) jxds1 (Or.inr ⟨rfl, rfl⟩) rfl
set_option maxRecDepth 100000 in
theorem jxchkM_51 : jxchkM 51 = true := jxM_1 rfl rfl (C := "CardClub$Members") rfl (jxat_mk (jxpc2 (j := 203) rfl) rfl) (jxat_mk (jxpc1 (j := 3) rfl) rfl) (plainFor_of_name (x := jxnm 51) jxcy4) jxcx4 rfl (jxat_mk (jxpc2 (j := 201) rfl) rfl) (jxat_mk (jxpc2 (j := 202) rfl) rfl) jxds11 (Or.inr ⟨rfl, rfl⟩) rfl
set_option maxRecDepth 100000 in
theorem jxchkM_52 : jxchkM 52 = true := jxM_1 rfl rfl (C := "CardClub$Members") rfl (jxat_mk (jxpc2 (j := 199) rfl) rfl) (jxat_mk (jxpc1 (j := 3) rfl) rfl) (plainFor_of_name (x := jxnm 52) jxcy4) jxcx4 rfl (jxat_mk (jxpc2 (j := 197) rfl) rfl) (jxat_mk (jxpc2 (j := 198) rfl) rfl) jxds11 (Or.inr ⟨rfl, rfl⟩) rfl
set_option maxRecDepth 100000 in
theorem jxchkM_53 : jxchkM 53 = true := jxM_1 rfl rfl (C := "CardClub$Members") rfl (jxat_mk (jxpc6 (j := 86) rfl) rfl) (jxat_mk (jxpc1 (j := 3) rfl) rfl) (plainFor_of_name (x := jxnm 53) jxcy4) jxcx4 rfl (jxat_mk (jxpc6 (j := 84) rfl) rfl) (jxat_mk (jxpc6 (j := 85) rfl) rfl) jxds1 (Or.inr ⟨rfl, rfl⟩) rfl
set_option maxRecDepth 100000 in
theorem jxchkM_54 : jxchkM 54 = true := jxM_1 rfl rfl (C := "CardClub$Members") rfl (jxat_mk (jxpc2 (j := 191) rfl) rfl) (jxat_mk (jxpc1 (j := 3) rfl) rfl) (plainFor_of_name (x := jxnm 54) jxcy4) jxcx4 rfl (jxat_mk (jxpc2 (j := 189) rfl) rfl) (jxat_mk (jxpc2 (j := 190) rfl) rfl) jxds21 (Or.inr ⟨rfl, rfl⟩) rfl
set_option maxRecDepth 100000 in
theorem jxchkM_55 : jxchkM 55 = true := jxM_1 rfl rfl (C := "CardClub$Members") rfl (jxat_mk (jxpc2 (j := 207) rfl) rfl) (jxat_mk (jxpc1 (j := 3) rfl) rfl) (plainFor_of_name (x := jxnm 55) jxcy4) jxcx4 rfl (jxat_mk (jxpc2 (j := 205) rfl) rfl) (jxat_mk (jxpc2 (j := 206) rfl) rfl) jxds9 (Or.inr ⟨rfl, rfl⟩) rfl
set_option maxRecDepth 100000 in
theorem jxchkM_56 : jxchkM 56 = true := jxM_1 rfl rfl (C := "CardClub$Members") rfl (jxat_mk (jxpc3 (j := 10) rfl) rfl) (jxat_mk (jxpc1 (j := 3) rfl) rfl) (plainFor_of_name (x := jxnm 56) jxcy4) jxcx4 rfl (jxat_mk (jxpc3 (j := 8) rfl) rfl) (jxat_mk (jxpc3 (j := 9) rfl) rfl) jxds9 (Or.inr ⟨rfl, rfl⟩) rfl
set_option maxRecDepth 100000 in
theorem jxchkM_57 : jxchkM 57 = true := jxM_1 rfl rfl (C := "CardClub$Members") rfl (jxat_mk (jxpc3 (j := 227) rfl) rfl) (jxat_mk (jxpc1 (j := 3) rfl) rfl) (plainFor_of_name (x := jxnm 57) jxcy4) jxcx4 rfl (jxat_mk (jxpc3 (j := 225) rfl) rfl) (jxat_mk (jxpc3 (j := 226) rfl) rfl) jxds7 (Or.inr ⟨rfl, rfl⟩) rfl
set_option maxRecDepth 100000 in
theorem jxchkM_58 : jxchkM 58 = true := jxM_1 rfl rfl (C := "CardClub$Members") rfl (jxat_mk (jxpc3 (j := 232) rfl) rfl) (jxat_mk (jxpc1 (j := 3) rfl) rfl) (plainFor_of_name (x := jxnm 58) jxcy4) jxcx4 rfl (jxat_mk (jxpc3 (j := 230) rfl) rfl) (jxat_mk (jxpc3 (j := 231) rfl) rfl) jxds7 (Or.inr ⟨rfl, rfl⟩) rfl
set_option maxRecDepth 100000 in
theorem jxchkM_59 : jxchkM 59 = true := jxM_1 rfl rfl (C := "CardClub$Members") rfl (jxat_mk (jxpc4 (j := 1) rfl) rfl) (jxat_mk (jxpc1 (j := 3) rfl) rfl) (plainFor_of_name (x := jxnm 59) jxcy4) jxcx4 rfl (jxat_mk (jxpc3 (j := 239) rfl) rfl) (jxat_mk (jxpc4 (j := 0) rfl) rfl) jxds7 (Or.inr ⟨rfl, rfl⟩) rfl
set_option maxRecDepth 100000 in
theorem jxchkM_60 : jxchkM 60 = true := jxM_1 rfl rfl (C := "CardClub$Members") rfl (jxat_mk (jxpc4 (j := 114) rfl) rfl) (jxat_mk (jxpc1 (j := 3) rfl) rfl) (plainFor_of_name (x := jxnm 60) jxcy4) jxcx4 rfl (jxat_mk (jxpc4 (j := 112) rfl) rfl) (jxat_mk (jxpc4 (j := 113) rfl) rfl) jxds7 (Or.inr ⟨rfl, rfl⟩) rfl
set_option maxRecDepth 100000 in
theorem jxchkM_61 : jxchkM 61 = true := jxM_1 rfl rfl (C := "CardClub$Members") rfl (jxat_mk (jxpc4 (j := 97) rfl) rfl) (jxat_mk (jxpc1 (j := 3) rfl) rfl) (plainFor_of_name (x := jxnm 61) jxcy4) jxcx4 rfl (jxat_mk (jxpc4 (j := 95) rfl) rfl) (jxat_mk (jxpc4 (j := 96) rfl) rfl) jxds16 (Or.inr ⟨rfl, rfl⟩) rfl
set_option maxRecDepth 100000 in
theorem jxchkM_62 : jxchkM 62 = true := jxM_2 rfl rfl (C := "CardClub$Offers") rfl (jxat_mk (jxpc1 (j := 235) rfl) rfl) (jxat_mk (jxpc1 (j := 9) rfl) rfl) (plainFor_of_name (x := jxnm 62) jxcy5) jxcx5 rfl (jxat_mk (jxpc1 (j := 234) rfl) rfl) rfl jxds2 rfl rfl rfl
set_option maxRecDepth 100000 in
theorem jxchkM_63 : jxchkM 63 = true := jxM_1 rfl rfl (C := "CardClub$Offers") rfl (jxat_mk (jxpc3 (j := 14) rfl) rfl) (jxat_mk (jxpc1 (j := 9) rfl) rfl) (plainFor_of_name (x := jxnm 63) jxcy5) jxcx5 rfl (jxat_mk (jxpc3 (j := 12) rfl) rfl) (jxat_mk (jxpc3 (j := 13) rfl) rfl) jxds1 (Or.inr ⟨rfl, rfl⟩) rfl
set_option maxRecDepth 100000 in
theorem jxchkM_64 : jxchkM 64 = true := jxM_1 rfl rfl (C := "CardClub$Offers") rfl (jxat_mk (jxpc6 (j := 95) rfl) rfl) (jxat_mk (jxpc1 (j := 9) rfl) rfl) (plainFor_of_name (x := jxnm 64) jxcy5) jxcx5 rfl (jxat_mk (jxpc6 (j := 93) rfl) rfl) (jxat_mk (jxpc6 (j := 94) rfl) rfl) jxds1 (Or.inr ⟨rfl, rfl⟩) rfl
set_option maxRecDepth 100000 in
theorem jxchkM_65 : jxchkM 65 = true := jxM_1 rfl rfl (C := "CardClub$Offers") rfl (jxat_mk (jxpc3 (j := 31) rfl) rfl) (jxat_mk (jxpc1 (j := 9) rfl) rfl) (plainFor_of_name (x := jxnm 65) jxcy5) jxcx5 rfl (jxat_mk (jxpc3 (j := 29) rfl) rfl) (jxat_mk (jxpc3 (j := 30) rfl) rfl) jxds11 (Or.inr ⟨rfl, rfl⟩) rfl
set_option maxRecDepth 100000 in
theorem jxchkM_66 : jxchkM 66 = true := jxM_1 rfl rfl (C := "CardClub$Offers") rfl (jxat_mk (jxpc5 (j := 78) rfl) rfl) (jxat_mk (jxpc1 (j := 9) rfl) rfl) (plainFor_of_name (x := jxnm 66) jxcy5) jxcx5 rfl (jxat_mk (jxpc5 (j := 76) rfl) rfl) (jxat_mk (jxpc5 (j := 77) rfl) rfl) jxds17 (Or.inr ⟨rfl, rfl⟩) rfl
set_option maxRecDepth 100000 in
theorem jxchkM_67 : jxchkM 67 = true := jxM_1 rfl rfl (C := "CardClub$Offers") rfl (jxat_mk (jxpc5 (j := 187) rfl) rfl) (jxat_mk (jxpc1 (j := 9) rfl) rfl) (plainFor_of_name (x := jxnm 67) jxcy5) jxcx5 rfl (jxat_mk (jxpc5 (j := 185) rfl) rfl) (jxat_mk (jxpc5 (j := 186) rfl) rfl) jxds1 (Or.inr ⟨rfl, rfl⟩) rfl
set_option maxRecDepth 100000 in
theorem jxchkM_68 : jxchkM 68 = true := jxM_1 rfl rfl (C := "CardClub$Offers") rfl (jxat_mk (jxpc5 (j := 191) rfl) rfl) (jxat_mk (jxpc1 (j := 9) rfl) rfl) (plainFor_of_name (x := jxnm 68) jxcy5) jxcx5 rfl (jxat_mk (jxpc5 (j := 189) rfl) rfl) (jxat_mk (jxpc5 (j := 190) rfl) rfl) jxds18 (Or.inr ⟨rfl, rfl⟩) rfl
set_option maxRecDepth 100000 in
theorem jxchkM_69 : jxchkM 69 = true := jxM_1 rfl rfl (C := "CardClub$Offers") rfl (jxat_mk (jxpc3 (j := 39) rfl) rfl) (jxat_mk (jxpc1 (j := 9) rfl) rfl) (plainFor_of_name (x := jxnm 69) jxcy5) jxcx5 rfl (jxat_mk (jxpc3 (j := 37) rfl) rfl) (jxat_mk (jxpc3 (j := 38) rfl) rfl) jxds9 (Or.inr ⟨rfl, rfl⟩) rfl
set_option maxRecDepth 100000 in
theorem jxchkM_70 : jxchkM 70 = true := jxM_1 rfl rfl (C := "CardClub$Offers") rfl (jxat_mk (jxpc5 (j := 86) rfl) rfl) (jxat_mk (jxpc1 (j := 9) rfl) rfl) (plainFor_of_name (x := jxnm 70) jxcy5) jxcx5 rfl (jxat_mk (jxpc5 (j := 84) rfl) rfl) (jxat_mk (jxpc5 (j := 85) rfl) rfl) jxds11 (Or.inr ⟨rfl, rfl⟩) rfl
set_option maxRecDepth 100000 in
theorem jxchkM_71 : jxchkM 71 = true := jxM_1 rfl rfl (C := "CardClub$Offers") rfl (jxat_mk (jxpc3 (j := 27) rfl) rfl) (jxat_mk (jxpc1 (j := 9) rfl) rfl) (plainFor_of_name (x := jxnm 71) jxcy5) jxcx5 rfl (jxat_mk (jxpc3 (j := 25) rfl) rfl) (jxat_mk (jxpc3 (j := 26) rfl) rfl) jxds11 (Or.inr ⟨rfl, rfl⟩) rfl
set_option maxRecDepth 100000 in
theorem jxchkM_72 : jxchkM 72 = true := jxM_1 rfl rfl (C := "CardClub$Offers") rfl (jxat_mk (jxpc5 (j := 199) rfl) rfl) (jxat_mk (jxpc1 (j := 9) rfl) rfl) (plainFor_of_name (x := jxnm 72) jxcy5) jxcx5 rfl (jxat_mk (jxpc5 (j := 197) rfl) rfl) (jxat_mk (jxpc5 (j := 198) rfl) rfl) jxds13 (Or.inr ⟨rfl, rfl⟩) rfl
set_option maxRecDepth 100000 in
theorem jxchkM_73 : jxchkM 73 = true := jxM_1 rfl rfl (C := "CardClub$Offers") rfl (jxat_mk (jxpc3 (j := 18) rfl) rfl) (jxat_mk (jxpc1 (j := 9) rfl) rfl) (plainFor_of_name (x := jxnm 73) jxcy5) jxcx5 rfl (jxat_mk (jxpc3 (j := 16) rfl) rfl) (jxat_mk (jxpc3 (j := 17) rfl) rfl) jxds7 (Or.inr ⟨rfl, rfl⟩) rfl
set_option maxRecDepth 100000 in
theorem jxchkM_74 : jxchkM 74 = true := jxM_1 rfl rfl (C := "CardClub$Offers") rfl (jxat_mk (jxpc5 (j := 114) rfl) rfl) (jxat_mk (jxpc1 (j := 9) rfl) rfl) (plainFor_of_name (x := jxnm 74) jxcy5) jxcx5 rfl (jxat_mk (jxpc5 (j := 112) rfl) rfl) (jxat_mk (jxpc5 (j := 113) rfl) rfl) jxds7 (Or.inr ⟨rfl, rfl⟩) rfl
set_option maxRecDepth 100000 in
theorem jxchkM_75 : jxchkM 75 = true := jxM_1 rfl rfl (C := "CardClub$Offers") rfl (jxat_mk (jxpc5 (j := 110) rfl) rfl) (jxat_mk (jxpc1 (j := 9) rfl) rfl) (plainFor_of_name (x := jxnm 75) jxcy5) jxcx5 rfl (jxat_mk (jxpc5 (j := 108) rfl) rfl) (jxat_mk (jxpc5 (j := 109) rfl) rfl) jxds7 (Or.inr ⟨rfl, rfl⟩) rfl
set_option maxRecDepth 100000 in
theorem jxchkM_76 : jxchkM 76 = true := jxM_1 rfl rfl (C := "CardClub$Offers") rfl (jxat_mk (jxpc5 (j := 211) rfl) rfl) (jxat_mk (jxpc1 (j := 9) rfl) rfl) (plainFor_of_name (x := jxnm 76) jxcy5) jxcx5 rfl (jxat_mk (jxpc5 (j := 209) rfl) rfl) (jxat_mk (jxpc5 (j := 210) rfl) rfl) jxds7 (Or.inr ⟨rfl, rfl⟩) rfl
set_option maxRecDepth 100000 in
theorem jxchkM_77 : jxchkM 77 = true := jxM_1 rfl rfl (C := "CardClub$Offers") rfl (jxat_mk (jxpc5 (j := 215) rfl) rfl) (jxat_mk (jxpc1 (j := 9) rfl) rfl) (plainFor_of_name (x := jxnm 77) jxcy5) jxcx5 rfl (jxat_mk (jxpc5 (j := 213) rfl) rfl) (jxat_mk (jxpc5 (j := 214) rfl) rfl) jxds7 (Or.inr ⟨rfl, rfl⟩) rfl
set_option maxRecDepth 100000 in
theorem jxchkM_78 : jxchkM 78 = true := jxM_1 rfl rfl (C := "CardClub$Offers") rfl (jxat_mk (jxpc3 (j := 35) rfl) rfl) (jxat_mk (jxpc1 (j := 9) rfl) rfl) (plainFor_of_name (x := jxnm 78) jxcy5) jxcx5 rfl (jxat_mk (jxpc3 (j := 33) rfl) rfl) (jxat_mk (jxpc3 (j := 34) rfl) rfl) jxds7 (Or.inr ⟨rfl, rfl⟩) rfl
set_option maxRecDepth 100000 in
theorem jxchkM_79 : jxchkM 79 = true := jxM_2 rfl rfl (C := "CardClub$RingSearch") rfl (jxat_mk (jxpc2 (j := 26) rfl) rfl) (jxat_mk (jxpc1 (j := 10) rfl) rfl) (plainFor_of_name (x := jxnm 79) jxcy6) jxcx6 rfl (jxat_mk (jxpc2 (j := 25) rfl) rfl) rfl jxds35 rfl rfl rfl
set_option maxRecDepth 100000 in
theorem jxchkM_80 : jxchkM 80 = true := jxM_1 rfl rfl (C := "CardClub$RingSearch") rfl (jxat_mk (jxpc5 (j := 178) rfl) rfl) (jxat_mk (jxpc1 (j := 10) rfl) rfl) (plainFor_of_name (x := jxnm 80) jxcy6) jxcx6 rfl (jxat_mk (jxpc5 (j := 176) rfl) rfl) (jxat_mk (jxpc5 (j := 177) rfl) rfl) jxds7 (Or.inr ⟨rfl, rfl⟩) rfl
set_option maxRecDepth 100000 in
theorem jxchkM_81 : jxchkM 81 = true := jxM_1 rfl rfl (C := "CardClub$RingSearch") rfl (jxat_mk (jxpc5 (j := 174) rfl) rfl) (jxat_mk (jxpc1 (j := 10) rfl) rfl) (plainFor_of_name (x := jxnm 81) jxcy6) jxcx6 rfl (jxat_mk (jxpc5 (j := 172) rfl) rfl) (jxat_mk (jxpc5 (j := 173) rfl) rfl) jxds13 (Or.inr ⟨rfl, rfl⟩) rfl
set_option maxRecDepth 100000 in
theorem jxchkM_82 : jxchkM 82 = true := jxM_1 rfl rfl (C := "CardClub$RingSearch") rfl (jxat_mk (jxpc5 (j := 94) rfl) rfl) (jxat_mk (jxpc1 (j := 10) rfl) rfl) (plainFor_of_name (x := jxnm 82) jxcy6) jxcx6 rfl (jxat_mk (jxpc5 (j := 92) rfl) rfl) (jxat_mk (jxpc5 (j := 93) rfl) rfl) jxds1 (Or.inr ⟨rfl, rfl⟩) rfl
set_option maxRecDepth 100000 in
theorem jxchkM_83 : jxchkM 83 = true := jxM_1 rfl rfl (C := "CardClub$RingSearch") rfl (jxat_mk (jxpc5 (j := 98) rfl) rfl) (jxat_mk (jxpc1 (j := 10) rfl) rfl) (plainFor_of_name (x := jxnm 83) jxcy6) jxcx6 rfl (jxat_mk (jxpc5 (j := 97) rfl) rfl) (jxat_mk (jxpc0 (j := 28) rfl) rfl) jxds2 (Or.inr ⟨rfl, rfl⟩) rfl
set_option maxRecDepth 100000 in
theorem jxchkM_84 : jxchkM 84 = true := jxM_1 rfl rfl (C := "CardClub$RingSearch") rfl (jxat_mk (jxpc5 (j := 104) rfl) rfl) (jxat_mk (jxpc1 (j := 10) rfl) rfl) (plainFor_of_name (x := jxnm 84) jxcy6) jxcx6 rfl (jxat_mk (jxpc5 (j := 103) rfl) rfl) (jxat_mk (jxpc0 (j := 29) rfl) rfl) jxds2 (Or.inr ⟨rfl, rfl⟩) rfl
set_option maxRecDepth 100000 in
theorem jxchkM_85 : jxchkM 85 = true := jxM_1 rfl rfl (C := "CardClub$RingSearch") rfl (jxat_mk (jxpc5 (j := 126) rfl) rfl) (jxat_mk (jxpc1 (j := 10) rfl) rfl) (plainFor_of_name (x := jxnm 85) jxcy6) jxcx6 rfl (jxat_mk (jxpc5 (j := 125) rfl) rfl) (jxat_mk (jxpc0 (j := 32) rfl) rfl) jxds16 (Or.inr ⟨rfl, rfl⟩) rfl
set_option maxRecDepth 100000 in
theorem jxchkM_86 : jxchkM 86 = true := jxM_1 rfl rfl (C := "CardClub$RingSearch") rfl (jxat_mk (jxpc5 (j := 118) rfl) rfl) (jxat_mk (jxpc1 (j := 10) rfl) rfl) (plainFor_of_name (x := jxnm 86) jxcy6) jxcx6 rfl (jxat_mk (jxpc5 (j := 117) rfl) rfl) (jxat_mk (jxpc0 (j := 30) rfl) rfl) jxds2 (Or.inr ⟨rfl, rfl⟩) rfl
set_option maxRecDepth 100000 in
theorem jxchkM_87 : jxchkM 87 = true := jxM_1 rfl rfl (C := "CardClub$RingSearch") rfl (jxat_mk (jxpc5 (j := 122) rfl) rfl) (jxat_mk (jxpc1 (j := 10) rfl) rfl) (plainFor_of_name (x := jxnm 87) jxcy6) jxcx6 rfl (jxat_mk (jxpc5 (j := 121) rfl) rfl) (jxat_mk (jxpc0 (j := 31) rfl) rfl) jxds24 (Or.inr ⟨rfl, rfl⟩) rfl
set_option maxRecDepth 100000 in
theorem jxchkM_88 : jxchkM 88 = true := jxM_0 rfl rfl (C := "CardClub$RingSearch") rfl (jxat_mk (jxpc5 (j := 129) rfl) rfl) (jxat_mk (jxpc1 (j := 10) rfl) rfl) (plainFor_of_name (x := jxnm 88) jxcy6) jxcx6 rfl (jxat_mk (jxpc5 (j := 128) rfl) rfl) jxds6 rfl
set_option maxRecDepth 100000 in
theorem jxchkM_89 : jxchkM 89 = true := jxM_1 rfl rfl (C := "CardClub$RingSearch") rfl (jxat_mk (jxpc5 (j := 150) rfl) rfl) (jxat_mk (jxpc1 (j := 10) rfl) rfl) (plainFor_of_name (x := jxnm 89) jxcy6) jxcx6 rfl (jxat_mk (jxpc5 (j := 149) rfl) rfl) (jxat_mk (jxpc0 (j := 35) rfl) rfl) jxds11 (Or.inr ⟨rfl, rfl⟩) rfl
set_option maxRecDepth 100000 in
theorem jxchkM_90 : jxchkM 90 = true := jxM_1 rfl rfl (C := "CardClub$RingSearch") rfl (jxat_mk (jxpc5 (j := 133) rfl) rfl) (jxat_mk (jxpc1 (j := 10) rfl) rfl) (plainFor_of_name (x := jxnm 90) jxcy6) jxcx6 rfl (jxat_mk (jxpc5 (j := 132) rfl) rfl) (jxat_mk (jxpc0 (j := 33) rfl) rfl) jxds2 (Or.inr ⟨rfl, rfl⟩) rfl
set_option maxRecDepth 100000 in
theorem jxchkM_91 : jxchkM 91 = true := jxM_1 rfl rfl (C := "CardClub$RingSearch") rfl (jxat_mk (jxpc5 (j := 137) rfl) rfl) (jxat_mk (jxpc1 (j := 10) rfl) rfl) (plainFor_of_name (x := jxnm 91) jxcy6) jxcx6 rfl (jxat_mk (jxpc5 (j := 136) rfl) rfl) (jxat_mk (jxpc0 (j := 34) rfl) rfl) jxds7 (Or.inr ⟨rfl, rfl⟩) rfl
set_option maxRecDepth 100000 in
theorem jxchkM_92 : jxchkM 92 = true := jxM_0 rfl rfl (C := "CardClub$RingSearch") rfl (jxat_mk (jxpc5 (j := 153) rfl) rfl) (jxat_mk (jxpc1 (j := 10) rfl) rfl) (plainFor_of_name (x := jxnm 92) jxcy6) jxcx6 rfl (jxat_mk (jxpc5 (j := 152) rfl) rfl) jxds6 rfl
set_option maxRecDepth 100000 in
theorem jxchkM_93 : jxchkM 93 = true := jxM_0 rfl rfl (C := "CardClub$RingSearch") rfl (jxat_mk (jxpc5 (j := 146) rfl) rfl) (jxat_mk (jxpc1 (j := 10) rfl) rfl) (plainFor_of_name (x := jxnm 93) jxcy6) jxcx6 rfl (jxat_mk (jxpc5 (j := 145) rfl) rfl) jxds6 rfl
set_option maxRecDepth 100000 in
theorem jxchkM_94 : jxchkM 94 = true := jxM_1 rfl rfl (C := "CardClub$RingSearch") rfl (jxat_mk (jxpc5 (j := 158) rfl) rfl) (jxat_mk (jxpc1 (j := 10) rfl) rfl) (plainFor_of_name (x := jxnm 94) jxcy6) jxcx6 rfl (jxat_mk (jxpc5 (j := 157) rfl) rfl) (jxat_mk (jxpc0 (j := 36) rfl) rfl) jxds2 (Or.inr ⟨rfl, rfl⟩) rfl
set_option maxRecDepth 100000 in
theorem jxchkM_95 : jxchkM 95 = true := jxM_1 rfl rfl (C := "CardClub$RingSearch") rfl (jxat_mk (jxpc5 (j := 162) rfl) rfl) (jxat_mk (jxpc1 (j := 10) rfl) rfl) (plainFor_of_name (x := jxnm 95) jxcy6) jxcx6 rfl (jxat_mk (jxpc5 (j := 161) rfl) rfl) (jxat_mk (jxpc0 (j := 37) rfl) rfl) jxds23 (Or.inr ⟨rfl, rfl⟩) rfl
set_option maxRecDepth 100000 in
theorem jxchkM_96 : jxchkM 96 = true := jxM_1 rfl rfl (C := "CardClub$RingSearch") rfl (jxat_mk (jxpc5 (j := 166) rfl) rfl) (jxat_mk (jxpc1 (j := 10) rfl) rfl) (plainFor_of_name (x := jxnm 96) jxcy6) jxcx6 rfl (jxat_mk (jxpc5 (j := 165) rfl) rfl) (jxat_mk (jxpc0 (j := 38) rfl) rfl) jxds7 (Or.inr ⟨rfl, rfl⟩) rfl
set_option maxRecDepth 100000 in
theorem jxchkM_97 : jxchkM 97 = true := jxM_2 rfl rfl (C := "CardClub$RuleBook") rfl (jxat_mk (jxpc1 (j := 114) rfl) rfl) (jxat_mk (jxpc1 (j := 5) rfl) rfl) (plainFor_of_name (x := jxnm 97) jxcy7) jxcx7 rfl (jxat_mk (jxpc1 (j := 113) rfl) rfl) rfl jxds2 rfl rfl rfl
set_option maxRecDepth 100000 in
theorem jxchkM_98 : jxchkM 98 = true := jxM_1 rfl rfl (C := "CardClub$RuleBook") rfl (jxat_mk (jxpc4 (j := 85) rfl) rfl) (jxat_mk (jxpc1 (j := 5) rfl) rfl) (plainFor_of_name (x := jxnm 98) jxcy7) jxcx7 rfl (jxat_mk (jxpc4 (j := 83) rfl) rfl) (jxat_mk (jxpc4 (j := 84) rfl) rfl) jxds1 (Or.inr ⟨rfl, rfl⟩) rfl
set_option maxRecDepth 100000 in
theorem jxchkM_99 : jxchkM 99 = true := jxM_1 rfl rfl (C := "CardClub$RuleBook") rfl (jxat_mk (jxpc4 (j := 72) rfl) rfl) (jxat_mk (jxpc1 (j := 5) rfl) rfl) (plainFor_of_name (x := jxnm 99) jxcy7) jxcx7 rfl (jxat_mk (jxpc4 (j := 70) rfl) rfl) (jxat_mk (jxpc4 (j := 71) rfl) rfl) jxds1 (Or.inr ⟨rfl, rfl⟩) rfl
set_option maxRecDepth 100000 in
theorem jxchkM_100 : jxchkM 100 = true := jxM_1 rfl rfl (C := "CardClub$RuleBook") rfl (jxat_mk (jxpc4 (j := 126) rfl) rfl) (jxat_mk (jxpc1 (j := 5) rfl) rfl) (plainFor_of_name (x := jxnm 100) jxcy7) jxcx7 rfl (jxat_mk (jxpc4 (j := 124) rfl) rfl) (jxat_mk (jxpc4 (j := 125) rfl) rfl) jxds1 (Or.inr ⟨rfl, rfl⟩) rfl
set_option maxRecDepth 100000 in
theorem jxchkM_101 : jxchkM 101 = true := jxM_1 rfl rfl (C := "CardClub$RuleBook") rfl (jxat_mk (jxpc4 (j := 151) rfl) rfl) (jxat_mk (jxpc1 (j := 5) rfl) rfl) (plainFor_of_name (x := jxnm 101) jxcy7) jxcx7 rfl (jxat_mk (jxpc4 (j := 149) rfl) rfl) (jxat_mk (jxpc4 (j := 150) rfl) rfl) jxds1 (Or.inr ⟨rfl, rfl⟩) rfl
set_option maxRecDepth 100000 in
theorem jxchkM_102 : jxchkM 102 = true := jxM_1 rfl rfl (C := "CardClub$RuleBook") rfl (jxat_mk (jxpc4 (j := 134) rfl) rfl) (jxat_mk (jxpc1 (j := 5) rfl) rfl) (plainFor_of_name (x := jxnm 102) jxcy7) jxcx7 rfl (jxat_mk (jxpc4 (j := 132) rfl) rfl) (jxat_mk (jxpc4 (j := 133) rfl) rfl) jxds1 (Or.inr ⟨rfl, rfl⟩) rfl
set_option maxRecDepth 100000 in
theorem jxchkM_103 : jxchkM 103 = true := jxM_1 rfl rfl (C := "CardClub$RuleBook") rfl (jxat_mk (jxpc4 (j := 9) rfl) rfl) (jxat_mk (jxpc1 (j := 5) rfl) rfl) (plainFor_of_name (x := jxnm 103) jxcy7) jxcx7 rfl (jxat_mk (jxpc4 (j := 7) rfl) rfl) (jxat_mk (jxpc4 (j := 8) rfl) rfl) jxds37 (Or.inr ⟨rfl, rfl⟩) rfl
set_option maxRecDepth 100000 in
theorem jxchkM_104 : jxchkM 104 = true := jxM_1 rfl rfl (C := "CardClub$RuleBook") rfl (jxat_mk (jxpc4 (j := 15) rfl) rfl) (jxat_mk (jxpc1 (j := 5) rfl) rfl) (plainFor_of_name (x := jxnm 104) jxcy7) jxcx7 rfl (jxat_mk (jxpc4 (j := 14) rfl) rfl) (jxat_mk (jxpc0 (j := 13) rfl) rfl) jxds37 (Or.inr ⟨rfl, rfl⟩) rfl
set_option maxRecDepth 100000 in
theorem jxchkM_105 : jxchkM 105 = true := jxM_1 rfl rfl (C := "CardClub$RuleBook") rfl (jxat_mk (jxpc4 (j := 19) rfl) rfl) (jxat_mk (jxpc1 (j := 5) rfl) rfl) (plainFor_of_name (x := jxnm 105) jxcy7) jxcx7 rfl (jxat_mk (jxpc4 (j := 18) rfl) rfl) (jxat_mk (jxpc0 (j := 14) rfl) rfl) jxds38 (Or.inr ⟨rfl, rfl⟩) rfl
set_option maxRecDepth 100000 in
theorem jxchkM_106 : jxchkM 106 = true := jxM_0 rfl rfl (C := "CardClub$RuleBook") rfl (jxat_mk (jxpc4 (j := 23) rfl) rfl) (jxat_mk (jxpc1 (j := 5) rfl) rfl) (plainFor_of_name (x := jxnm 106) jxcy7) jxcx7 rfl (jxat_mk (jxpc4 (j := 22) rfl) rfl) jxds36 rfl
set_option maxRecDepth 100000 in
theorem jxchkM_107 : jxchkM 107 = true := jxM_2 rfl rfl (C := "CardClub$Tally") rfl (jxat_mk (jxpc1 (j := 187) rfl) rfl) (jxat_mk (jxpc1 (j := 7) rfl) rfl) (plainFor_of_name (x := jxnm 107) jxcy8) jxcx8 rfl (jxat_mk (jxpc1 (j := 186) rfl) rfl) rfl jxds2 rfl rfl rfl
set_option maxRecDepth 100000 in
theorem jxchkM_108 : jxchkM 108 = true := jxM_1 rfl rfl (C := "CardClub$Tally") rfl (jxat_mk (jxpc4 (j := 51) rfl) rfl) (jxat_mk (jxpc1 (j := 7) rfl) rfl) (plainFor_of_name (x := jxnm 108) jxcy8) jxcx8 rfl (jxat_mk (jxpc4 (j := 49) rfl) rfl) (jxat_mk (jxpc4 (j := 50) rfl) rfl) jxds32 (Or.inr ⟨rfl, rfl⟩) rfl
set_option maxRecDepth 100000 in
theorem jxchkM_109 : jxchkM 109 = true := jxM_1 rfl rfl (C := "CardClub$Tally") rfl (jxat_mk (jxpc4 (j := 63) rfl) rfl) (jxat_mk (jxpc1 (j := 7) rfl) rfl) (plainFor_of_name (x := jxnm 109) jxcy8) jxcx8 rfl (jxat_mk (jxpc4 (j := 62) rfl) rfl) (jxat_mk (jxpc0 (j := 15) rfl) rfl) jxds22 (Or.inr ⟨rfl, rfl⟩) rfl
set_option maxRecDepth 100000 in
theorem jxchkM_110 : jxchkM 110 = true := jxM_1 rfl rfl (C := "CardClub$Tally") rfl (jxat_mk (jxpc4 (j := 76) rfl) rfl) (jxat_mk (jxpc1 (j := 7) rfl) rfl) (plainFor_of_name (x := jxnm 110) jxcy8) jxcx8 rfl (jxat_mk (jxpc4 (j := 74) rfl) rfl) (jxat_mk (jxpc4 (j := 75) rfl) rfl) jxds7 (Or.inr ⟨rfl, rfl⟩) rfl
set_option maxRecDepth 100000 in
theorem jxchkM_111 : jxchkM 111 = true := jxM_1 rfl rfl (C := "CardClub$Tally") rfl (jxat_mk (jxpc4 (j := 118) rfl) rfl) (jxat_mk (jxpc1 (j := 7) rfl) rfl) (plainFor_of_name (x := jxnm 111) jxcy8) jxcx8 rfl (jxat_mk (jxpc4 (j := 116) rfl) rfl) (jxat_mk (jxpc4 (j := 117) rfl) rfl) jxds7 (Or.inr ⟨rfl, rfl⟩) rfl
set_option maxRecDepth 100000 in
theorem jxchkM_112 : jxchkM 112 = true := jxM_1 rfl rfl (C := "CardClub$Tally") rfl (jxat_mk (jxpc4 (j := 122) rfl) rfl) (jxat_mk (jxpc1 (j := 7) rfl) rfl) (plainFor_of_name (x := jxnm 112) jxcy8) jxcx8 rfl (jxat_mk (jxpc4 (j := 120) rfl) rfl) (jxat_mk (jxpc4 (j := 121) rfl) rfl) jxds7 (Or.inr ⟨rfl, rfl⟩) rfl
set_option maxRecDepth 100000 in
theorem jxchkM_113 : jxchkM 113 = true := jxM_1 rfl rfl (C := "CardClub$Tally") rfl (jxat_mk (jxpc4 (j := 81) rfl) rfl) (jxat_mk (jxpc1 (j := 7) rfl) rfl) (plainFor_of_name (x := jxnm 113) jxcy8) jxcx8 rfl (jxat_mk (jxpc4 (j := 79) rfl) rfl) (jxat_mk (jxpc4 (j := 80) rfl) rfl) jxds7 (Or.inr ⟨rfl, rfl⟩) rfl
set_option maxRecDepth 100000 in
theorem jxchkM_114 : jxchkM 114 = true := jxM_1 rfl rfl (C := "CardClub$Tally") rfl (jxat_mk (jxpc5 (j := 44) rfl) rfl) (jxat_mk (jxpc1 (j := 7) rfl) rfl) (plainFor_of_name (x := jxnm 114) jxcy8) jxcx8 rfl (jxat_mk (jxpc5 (j := 42) rfl) rfl) (jxat_mk (jxpc5 (j := 43) rfl) rfl) jxds7 (Or.inr ⟨rfl, rfl⟩) rfl
set_option maxRecDepth 100000 in
theorem jxchkM_115 : jxchkM 115 = true := jxM_1 rfl rfl (C := "CardClub$Tally") rfl (jxat_mk (jxpc4 (j := 142) rfl) rfl) (jxat_mk (jxpc1 (j := 7) rfl) rfl) (plainFor_of_name (x := jxnm 115) jxcy8) jxcx8 rfl (jxat_mk (jxpc4 (j := 140) rfl) rfl) (jxat_mk (jxpc4 (j := 141) rfl) rfl) jxds7 (Or.inr ⟨rfl, rfl⟩) rfl
set_option maxRecDepth 100000 in
theorem jxchkM_116 : jxchkM 116 = true := jxM_2 rfl rfl (C := "CardClub$Tape") rfl (jxat_mk (jxpc1 (j := 32) rfl) rfl) (jxat_mk (jxpc1 (j := 2) rfl) rfl) (plainFor_of_name (x := jxnm 116) jxcy9) jxcx9 rfl (jxat_mk (jxpc1 (j := 31) rfl) rfl) rfl jxds2 rfl rfl rfl
set_option maxRecDepth 100000 in
theorem jxchkM_117 : jxchkM 117 = true := jxM_1 rfl rfl (C := "CardClub$Tape") rfl (jxat_mk (jxpc3 (j := 56) rfl) rfl) (jxat_mk (jxpc1 (j := 2) rfl) rfl) (plainFor_of_name (x := jxnm 117) jxcy9) jxcx9 rfl (jxat_mk (jxpc3 (j := 54) rfl) rfl) (jxat_mk (jxpc3 (j := 55) rfl) rfl) jxds1 (Or.inr ⟨rfl, rfl⟩) rfl
set_option maxRecDepth 100000 in
theorem jxchkM_118 : jxchkM 118 = true := jxM_1 rfl rfl (C := "CardClub$Tape") rfl (jxat_mk (jxpc3 (j := 48) rfl) rfl) (jxat_mk (jxpc1 (j := 2) rfl) rfl) (plainFor_of_name (x := jxnm 118) jxcy9) jxcx9 rfl (jxat_mk (jxpc3 (j := 46) rfl) rfl) (jxat_mk (jxpc3 (j := 47) rfl) rfl) jxds11 (Or.inr ⟨rfl, rfl⟩) rfl
set_option maxRecDepth 100000 in
theorem jxchkM_119 : jxchkM 119 = true := jxM_1 rfl rfl (C := "CardClub$Tape") rfl (jxat_mk (jxpc3 (j := 52) rfl) rfl) (jxat_mk (jxpc1 (j := 2) rfl) rfl) (plainFor_of_name (x := jxnm 119) jxcy9) jxcx9 rfl (jxat_mk (jxpc3 (j := 50) rfl) rfl) (jxat_mk (jxpc3 (j := 51) rfl) rfl) jxds9 (Or.inr ⟨rfl, rfl⟩) rfl
set_option maxRecDepth 100000 in
theorem jxchkM_120 : jxchkM 120 = true := jxM_1 rfl rfl (C := "CardClub$Tape") rfl (jxat_mk (jxpc3 (j := 64) rfl) rfl) (jxat_mk (jxpc1 (j := 2) rfl) rfl) (plainFor_of_name (x := jxnm 120) jxcy9) jxcx9 rfl (jxat_mk (jxpc3 (j := 62) rfl) rfl) (jxat_mk (jxpc3 (j := 63) rfl) rfl) jxds9 (Or.inr ⟨rfl, rfl⟩) rfl
set_option maxRecDepth 100000 in
theorem jxchkM_121 : jxchkM 121 = true := jxM_1 rfl rfl (C := "CardClub$Tape") rfl (jxat_mk (jxpc3 (j := 77) rfl) rfl) (jxat_mk (jxpc1 (j := 2) rfl) rfl) (plainFor_of_name (x := jxnm 121) jxcy9) jxcx9 rfl (jxat_mk (jxpc3 (j := 75) rfl) rfl) (jxat_mk (jxpc3 (j := 76) rfl) rfl) jxds2 (Or.inr ⟨rfl, rfl⟩) rfl
set_option maxRecDepth 100000 in
theorem jxchkM_122 : jxchkM 122 = true := jxM_1 rfl rfl (C := "CardClub$Tape") rfl (jxat_mk (jxpc3 (j := 120) rfl) rfl) (jxat_mk (jxpc1 (j := 2) rfl) rfl) (plainFor_of_name (x := jxnm 122) jxcy9) jxcx9 rfl (jxat_mk (jxpc3 (j := 118) rfl) rfl) (jxat_mk (jxpc3 (j := 119) rfl) rfl) jxds3 (Or.inr ⟨rfl, rfl⟩) rfl
set_option maxRecDepth 100000 in
theorem jxchkM_123 : jxchkM 123 = true := jxM_1 rfl rfl (C := "CardClub$Tape") rfl (jxat_mk (jxpc3 (j := 205) rfl) rfl) (jxat_mk (jxpc1 (j := 2) rfl) rfl) (plainFor_of_name (x := jxnm 123) jxcy9) jxcx9 rfl (jxat_mk (jxpc3 (j := 203) rfl) rfl) (jxat_mk (jxpc3 (j := 204) rfl) rfl) jxds1 (Or.inr ⟨rfl, rfl⟩) rfl
set_option maxRecDepth 100000 in
theorem jxchkM_124 : jxchkM 124 = true := jxM_1 rfl rfl (C := "CardClub$Tape") rfl (jxat_mk (jxpc3 (j := 166) rfl) rfl) (jxat_mk (jxpc1 (j := 2) rfl) rfl) (plainFor_of_name (x := jxnm 124) jxcy9) jxcx9 rfl (jxat_mk (jxpc3 (j := 164) rfl) rfl) (jxat_mk (jxpc3 (j := 165) rfl) rfl) jxds15 (Or.inr ⟨rfl, rfl⟩) rfl
set_option maxRecDepth 100000 in
theorem jxchkM_125 : jxchkM 125 = true := jxM_1 rfl rfl (C := "CardClub$Tape") rfl (jxat_mk (jxpc3 (j := 174) rfl) rfl) (jxat_mk (jxpc1 (j := 2) rfl) rfl) (plainFor_of_name (x := jxnm 125) jxcy9) jxcx9 rfl (jxat_mk (jxpc3 (j := 172) rfl) rfl) (jxat_mk (jxpc3 (j := 173) rfl) rfl) jxds2 (Or.inr ⟨rfl, rfl⟩) rfl
set_option maxRecDepth 100000 in
theorem jxchkM_126 : jxchkM 126 = true := jxM_1 rfl rfl (C := "CardClub$Tape") rfl (jxat_mk (jxpc3 (j := 101) rfl) rfl) (jxat_mk (jxpc1 (j := 2) rfl) rfl) (plainFor_of_name (x := jxnm 126) jxcy9) jxcx9 rfl (jxat_mk (jxpc3 (j := 99) rfl) rfl) (jxat_mk (jxpc3 (j := 100) rfl) rfl) jxds1 (Or.inr ⟨rfl, rfl⟩) rfl
set_option maxRecDepth 100000 in
theorem jxchkM_127 : jxchkM 127 = true := jxM_1 rfl rfl (C := "CardClub$Tape") rfl (jxat_mk (jxpc3 (j := 85) rfl) rfl) (jxat_mk (jxpc1 (j := 2) rfl) rfl) (plainFor_of_name (x := jxnm 127) jxcy9) jxcx9 rfl (jxat_mk (jxpc3 (j := 83) rfl) rfl) (jxat_mk (jxpc3 (j := 84) rfl) rfl) jxds3 (Or.inr ⟨rfl, rfl⟩) rfl
set_option maxRecDepth 100000 in
theorem jxchkM_128 : jxchkM 128 = true := jxM_1 rfl rfl (C := "CardClub$Tape") rfl (jxat_mk (jxpc3 (j := 106) rfl) rfl) (jxat_mk (jxpc1 (j := 2) rfl) rfl) (plainFor_of_name (x := jxnm 128) jxcy9) jxcx9 rfl (jxat_mk (jxpc3 (j := 104) rfl) rfl) (jxat_mk (jxpc3 (j := 105) rfl) rfl) jxds40 (Or.inr ⟨rfl, rfl⟩) rfl
set_option maxRecDepth 100000 in
theorem jxchkM_129 : jxchkM 129 = true := jxM_1 rfl rfl (C := "CardClub$Tape") rfl (jxat_mk (jxpc3 (j := 162) rfl) rfl) (jxat_mk (jxpc1 (j := 2) rfl) rfl) (plainFor_of_name (x := jxnm 129) jxcy9) jxcx9 rfl (jxat_mk (jxpc3 (j := 160) rfl) rfl) (jxat_mk (jxpc3 (j := 161) rfl) rfl) jxds4 (Or.inr ⟨rfl, rfl⟩) rfl
set_option maxRecDepth 100000 in
theorem jxchkM_130 : jxchkM 130 = true := jxM_1 rfl rfl (C := "CardClub$Tape") rfl (jxat_mk (jxpc3 (j := 197) rfl) rfl) (jxat_mk (jxpc1 (j := 2) rfl) rfl) (plainFor_of_name (x := jxnm 130) jxcy9) jxcx9 rfl (jxat_mk (jxpc3 (j := 195) rfl) rfl) (jxat_mk (jxpc3 (j := 196) rfl) rfl) jxds13 (Or.inr ⟨rfl, rfl⟩) rfl
set_option maxRecDepth 100000 in
theorem jxchkM_131 : jxchkM 131 = true := jxM_1 rfl rfl (C := "CardClub$Tape") rfl (jxat_mk (jxpc3 (j := 81) rfl) rfl) (jxat_mk (jxpc1 (j := 2) rfl) rfl) (plainFor_of_name (x := jxnm 131) jxcy9) jxcx9 rfl (jxat_mk (jxpc3 (j := 80) rfl) rfl) (jxat_mk (jxpc0 (j := 3) rfl) rfl) jxds2 (Or.inr ⟨rfl, rfl⟩) rfl
set_option maxRecDepth 100000 in
theorem jxchkM_132 : jxchkM 132 = true := jxM_2 rfl rfl (C := "CardClub$Tariffs") rfl (jxat_mk (jxpc2 (j := 73) rfl) rfl) (jxat_mk (jxpc1 (j := 11) rfl) rfl) (plainFor_of_name (x := jxnm 132) jxcy10) jxcx10 rfl (jxat_mk (jxpc2 (j := 72) rfl) rfl) rfl jxds2 rfl rfl rfl
set_option maxRecDepth 100000 in
theorem jxchkM_133 : jxchkM 133 = true := jxM_1 rfl rfl (C := "CardClub$Tariffs") rfl (jxat_mk (jxpc6 (j := 99) rfl) rfl) (jxat_mk (jxpc1 (j := 11) rfl) rfl) (plainFor_of_name (x := jxnm 133) jxcy10) jxcx10 rfl (jxat_mk (jxpc6 (j := 97) rfl) rfl) (jxat_mk (jxpc6 (j := 98) rfl) rfl) jxds1 (Or.inr ⟨rfl, rfl⟩) rfl
set_option maxRecDepth 100000 in
theorem jxchkM_134 : jxchkM 134 = true := jxM_1 rfl rfl (C := "CardClub$Tariffs") rfl (jxat_mk (jxpc5 (j := 223) rfl) rfl) (jxat_mk (jxpc1 (j := 11) rfl) rfl) (plainFor_of_name (x := jxnm 134) jxcy10) jxcx10 rfl (jxat_mk (jxpc5 (j := 221) rfl) rfl) (jxat_mk (jxpc5 (j := 222) rfl) rfl) jxds3 (Or.inr ⟨rfl, rfl⟩) rfl
set_option maxRecDepth 100000 in
theorem jxchkM_135 : jxchkM 135 = true := jxM_1 rfl rfl (C := "CardClub$Tariffs") rfl (jxat_mk (jxpc5 (j := 227) rfl) rfl) (jxat_mk (jxpc1 (j := 11) rfl) rfl) (plainFor_of_name (x := jxnm 135) jxcy10) jxcx10 rfl (jxat_mk (jxpc5 (j := 225) rfl) rfl) (jxat_mk (jxpc5 (j := 226) rfl) rfl) jxds39 (Or.inr ⟨rfl, rfl⟩) rfl
set_option maxRecDepth 100000 in
theorem jxchkM_136 : jxchkM 136 = true := jxM_1 rfl rfl (C := "CardClub$Tariffs") rfl (jxat_mk (jxpc5 (j := 232) rfl) rfl) (jxat_mk (jxpc1 (j := 11) rfl) rfl) (plainFor_of_name (x := jxnm 136) jxcy10) jxcx10 rfl (jxat_mk (jxpc5 (j := 231) rfl) rfl) (jxat_mk (jxpc0 (j := 39) rfl) rfl) jxds38 (Or.inr ⟨rfl, rfl⟩) rfl
set_option maxRecDepth 100000 in
theorem jxchkM_137 : jxchkM 137 = true := jxM_1 rfl rfl (C := "CardClub$Tariffs") rfl (jxat_mk (jxpc6 (j := 2) rfl) rfl) (jxat_mk (jxpc1 (j := 11) rfl) rfl) (plainFor_of_name (x := jxnm 137) jxcy10) jxcx10 rfl (jxat_mk (jxpc6 (j := 1) rfl) rfl) (jxat_mk (jxpc0 (j := 40) rfl) rfl) jxds7 (Or.inr ⟨rfl, rfl⟩) rfl
set_option maxRecDepth 100000 in
theorem jxchkM_138 : jxchkM 138 = true := jxM_1 rfl rfl (C := "CardClub$Tariffs") rfl (jxat_mk (jxpc6 (j := 18) rfl) rfl) (jxat_mk (jxpc1 (j := 11) rfl) rfl) (plainFor_of_name (x := jxnm 138) jxcy10) jxcx10 rfl (jxat_mk (jxpc6 (j := 16) rfl) rfl) (jxat_mk (jxpc6 (j := 17) rfl) rfl) jxds17 (Or.inr ⟨rfl, rfl⟩) rfl
set_option maxRecDepth 100000 in
theorem jxchkM_139 : jxchkM 139 = true := jxM_1 rfl rfl (C := "CardClub$Tariffs") rfl (jxat_mk (jxpc6 (j := 22) rfl) rfl) (jxat_mk (jxpc1 (j := 11) rfl) rfl) (plainFor_of_name (x := jxnm 139) jxcy10) jxcx10 rfl (jxat_mk (jxpc6 (j := 21) rfl) rfl) (jxat_mk (jxpc0 (j := 42) rfl) rfl) jxds7 (Or.inr ⟨rfl, rfl⟩) rfl
set_option maxRecDepth 100000 in
theorem jxchkM_140 : jxchkM 140 = true := jxM_2 rfl rfl (C := "CardClub$Wishes") rfl (jxat_mk (jxpc1 (j := 81) rfl) rfl) (jxat_mk (jxpc1 (j := 4) rfl) rfl) (plainFor_of_name (x := jxnm 140) jxcy11) jxcx11 rfl (jxat_mk (jxpc1 (j := 80) rfl) rfl) rfl jxds34 rfl rfl rfl
set_option maxRecDepth 100000 in
theorem jxchkM_141 : jxchkM 141 = true := jxM_1 rfl rfl (C := "CardClub$Wishes") rfl (jxat_mk (jxpc3 (j := 73) rfl) rfl) (jxat_mk (jxpc1 (j := 4) rfl) rfl) (plainFor_of_name (x := jxnm 141) jxcy11) jxcx11 rfl (jxat_mk (jxpc3 (j := 71) rfl) rfl) (jxat_mk (jxpc3 (j := 72) rfl) rfl) jxds7 (Or.inr ⟨rfl, rfl⟩) rfl
set_option maxRecDepth 100000 in
theorem jxchkM_142 : jxchkM 142 = true := jxM_1 rfl rfl (C := "CardClub$Wishes") rfl (jxat_mk (jxpc3 (j := 209) rfl) rfl) (jxat_mk (jxpc1 (j := 4) rfl) rfl) (plainFor_of_name (x := jxnm 142) jxcy11) jxcx11 rfl (jxat_mk (jxpc3 (j := 208) rfl) rfl) (jxat_mk (jxpc0 (j := 10) rfl) rfl) jxds9 (Or.inr ⟨rfl, rfl⟩) rfl
set_option maxRecDepth 100000 in
theorem jxchkM_143 : jxchkM 143 = true := jxM_1 rfl rfl (C := "CardClub$Wishes") rfl (jxat_mk (jxpc3 (j := 89) rfl) rfl) (jxat_mk (jxpc1 (j := 4) rfl) rfl) (plainFor_of_name (x := jxnm 143) jxcy11) jxcx11 rfl (jxat_mk (jxpc3 (j := 88) rfl) rfl) (jxat_mk (jxpc0 (j := 4) rfl) rfl) jxds9 (Or.inr ⟨rfl, rfl⟩) rfl
set_option maxRecDepth 100000 in
theorem jxchkM_144 : jxchkM 144 = true := jxM_1 rfl rfl (C := "CardClub$Wishes") rfl (jxat_mk (jxpc3 (j := 93) rfl) rfl) (jxat_mk (jxpc1 (j := 4) rfl) rfl) (plainFor_of_name (x := jxnm 144) jxcy11) jxcx11 rfl (jxat_mk (jxpc3 (j := 92) rfl) rfl) (jxat_mk (jxpc0 (j := 5) rfl) rfl) jxds9 (Or.inr ⟨rfl, rfl⟩) rfl
set_option maxRecDepth 100000 in
theorem jxchkM_145 : jxchkM 145 = true := jxM_1 rfl rfl (C := "CardClub$Wishes") rfl (jxat_mk (jxpc3 (j := 97) rfl) rfl) (jxat_mk (jxpc1 (j := 4) rfl) rfl) (plainFor_of_name (x := jxnm 145) jxcy11) jxcx11 rfl (jxat_mk (jxpc3 (j := 96) rfl) rfl) (jxat_mk (jxpc0 (j := 6) rfl) rfl) jxds9 (Or.inr ⟨rfl, rfl⟩) rfl
set_option maxRecDepth 100000 in
theorem jxchkM_146 : jxchkM 146 = true := jxM_1 rfl rfl (C := "CardClub$Wishes") rfl (jxat_mk (jxpc3 (j := 179) rfl) rfl) (jxat_mk (jxpc1 (j := 4) rfl) rfl) (plainFor_of_name (x := jxnm 146) jxcy11) jxcx11 rfl (jxat_mk (jxpc3 (j := 178) rfl) rfl) (jxat_mk (jxpc0 (j := 8) rfl) rfl) jxds9 (Or.inr ⟨rfl, rfl⟩) rfl
set_option maxRecDepth 100000 in
theorem jxchkM_147 : jxchkM 147 = true := jxM_1 rfl rfl (C := "CardClub$Wishes") rfl (jxat_mk (jxpc3 (j := 183) rfl) rfl) (jxat_mk (jxpc1 (j := 4) rfl) rfl) (plainFor_of_name (x := jxnm 147) jxcy11) jxcx11 rfl (jxat_mk (jxpc3 (j := 182) rfl) rfl) (jxat_mk (jxpc0 (j := 9) rfl) rfl) jxds1 (Or.inr ⟨rfl, rfl⟩) rfl
set_option maxRecDepth 100000 in
theorem jxchkM_148 : jxchkM 148 = true := jxM_0 rfl rfl (C := "CardClub$Wishes") rfl (jxat_mk (jxpc3 (j := 193) rfl) rfl) (jxat_mk (jxpc1 (j := 4) rfl) rfl) (plainFor_of_name (x := jxnm 148) jxcy11) jxcx11 rfl (jxat_mk (jxpc3 (j := 192) rfl) rfl) jxds6 rfl
set_option maxRecDepth 100000 in
theorem jxchkM_149 : jxchkM 149 = true := jxM_1 rfl rfl (C := "CardClub$Wishes") rfl (jxat_mk (jxpc3 (j := 170) rfl) rfl) (jxat_mk (jxpc1 (j := 4) rfl) rfl) (plainFor_of_name (x := jxnm 149) jxcy11) jxcx11 rfl (jxat_mk (jxpc3 (j := 169) rfl) rfl) (jxat_mk (jxpc0 (j := 7) rfl) rfl) jxds15 (Or.inr ⟨rfl, rfl⟩) rfl
set_option maxRecDepth 100000 in
theorem jxchkM_150 : jxchkM 150 = true := jxM_1 rfl rfl (C := "CardClub$Wishes") rfl (jxat_mk (jxpc3 (j := 219) rfl) rfl) (jxat_mk (jxpc1 (j := 4) rfl) rfl) (plainFor_of_name (x := jxnm 150) jxcy11) jxcx11 rfl (jxat_mk (jxpc3 (j := 217) rfl) rfl) (jxat_mk (jxpc3 (j := 218) rfl) rfl) jxds20 (Or.inr ⟨rfl, rfl⟩) rfl
set_option maxRecDepth 100000 in
theorem jxchkM_151 : jxchkM 151 = true := jxM_1 rfl rfl (C := "CardClub$Wishes") rfl (jxat_mk (jxpc3 (j := 223) rfl) rfl) (jxat_mk (jxpc1 (j := 4) rfl) rfl) (plainFor_of_name (x := jxnm 151) jxcy11) jxcx11 rfl (jxat_mk (jxpc3 (j := 222) rfl) rfl) (jxat_mk (jxpc0 (j := 11) rfl) rfl) jxds25 (Or.inr ⟨rfl, rfl⟩) rfl
set_option maxRecDepth 100000 in
theorem jxchkM_152 : jxchkM 152 = true := jxM_1 rfl rfl (C := "CardClub$Wishes") rfl (jxat_mk (jxpc3 (j := 236) rfl) rfl) (jxat_mk (jxpc1 (j := 4) rfl) rfl) (plainFor_of_name (x := jxnm 152) jxcy11) jxcx11 rfl (jxat_mk (jxpc3 (j := 235) rfl) rfl) (jxat_mk (jxpc0 (j := 12) rfl) rfl) jxds13 (Or.inr ⟨rfl, rfl⟩) rfl
set_option maxRecDepth 100000 in
theorem jxchkM_153 : jxchkM 153 = true := jxM_2 rfl rfl (C := "CardClub") rfl (jxat_mk (jxpc1 (j := 24) rfl) rfl) (jxat_mk (jxpc1 (j := 1) rfl) rfl) (plainFor_of_name (x := jxnm 153) jxcy0) jxcx0 rfl (jxat_mk (jxpc1 (j := 23) rfl) rfl) rfl jxds2 rfl rfl rfl
set_option maxRecDepth 100000 in
theorem jxchkM_154 : jxchkM 154 = true := jxM_1 rfl rfl (C := "CardClub") rfl (jxat_mk (jxpc2 (j := 169) rfl) rfl) (jxat_mk (jxpc1 (j := 1) rfl) rfl) (plainFor_of_name (x := jxnm 154) jxcy0) jxcx0 rfl (jxat_mk (jxpc2 (j := 167) rfl) rfl) (jxat_mk (jxpc2 (j := 168) rfl) rfl) jxds11 (Or.inr ⟨rfl, rfl⟩) rfl
set_option maxRecDepth 100000 in
theorem jxchkM_155 : jxchkM 155 = true := jxM_1 rfl rfl (C := "CardClub") rfl (jxat_mk (jxpc2 (j := 179) rfl) rfl) (jxat_mk (jxpc1 (j := 1) rfl) rfl) (plainFor_of_name (x := jxnm 155) jxcy0) jxcx0 rfl (jxat_mk (jxpc2 (j := 177) rfl) rfl) (jxat_mk (jxpc2 (j := 178) rfl) rfl) jxds17 (Or.inr ⟨rfl, rfl⟩) rfl
set_option maxRecDepth 100000 in
theorem jxchkM_156 : jxchkM 156 = true := jxM_1 rfl rfl (C := "CardClub") rfl (jxat_mk (jxpc2 (j := 186) rfl) rfl) (jxat_mk (jxpc1 (j := 1) rfl) rfl) (plainFor_of_name (x := jxnm 156) jxcy0) jxcx0 rfl (jxat_mk (jxpc2 (j := 184) rfl) rfl) (jxat_mk (jxpc2 (j := 185) rfl) rfl) jxds17 (Or.inr ⟨rfl, rfl⟩) rfl
set_option maxRecDepth 100000 in
theorem jxchkM_157 : jxchkM 157 = true := jxM_1 rfl rfl (C := "CardClub") rfl (jxat_mk (jxpc2 (j := 195) rfl) rfl) (jxat_mk (jxpc1 (j := 1) rfl) rfl) (plainFor_of_name (x := jxnm 157) jxcy0) jxcx0 rfl (jxat_mk (jxpc2 (j := 193) rfl) rfl) (jxat_mk (jxpc2 (j := 194) rfl) rfl) jxds7 (Or.inr ⟨rfl, rfl⟩) rfl
set_option maxRecDepth 100000 in
theorem jxchkM_158 : jxchkM 158 = true := jxM_1 rfl rfl (C := "CardClub") rfl (jxat_mk (jxpc2 (j := 211) rfl) rfl) (jxat_mk (jxpc1 (j := 1) rfl) rfl) (plainFor_of_name (x := jxnm 158) jxcy0) jxcx0 rfl (jxat_mk (jxpc2 (j := 210) rfl) rfl) (jxat_mk (jxpc0 (j := 0) rfl) rfl) jxds7 (Or.inr ⟨rfl, rfl⟩) rfl
set_option maxRecDepth 100000 in
theorem jxchkM_159 : jxchkM 159 = true := jxM_1 rfl rfl (C := "CardClub") rfl (jxat_mk (jxpc3 (j := 23) rfl) rfl) (jxat_mk (jxpc1 (j := 1) rfl) rfl) (plainFor_of_name (x := jxnm 159) jxcy0) jxcx0 rfl (jxat_mk (jxpc3 (j := 22) rfl) rfl) (jxat_mk (jxpc0 (j := 2) rfl) rfl) jxds7 (Or.inr ⟨rfl, rfl⟩) rfl
set_option maxRecDepth 100000 in
theorem jxchkM_160 : jxchkM 160 = true := jxM_1 rfl rfl (C := "CardClub") rfl (jxat_mk (jxpc3 (j := 44) rfl) rfl) (jxat_mk (jxpc1 (j := 1) rfl) rfl) (plainFor_of_name (x := jxnm 160) jxcy0) jxcx0 rfl (jxat_mk (jxpc3 (j := 42) rfl) rfl) (jxat_mk (jxpc3 (j := 43) rfl) rfl) jxds23 (Or.inr ⟨rfl, rfl⟩) rfl
set_option maxRecDepth 100000 in
theorem jxchkM_161 : jxchkM 161 = true := jxM_1 rfl rfl (C := "CardClub") rfl (jxat_mk (jxpc3 (j := 60) rfl) rfl) (jxat_mk (jxpc1 (j := 1) rfl) rfl) (plainFor_of_name (x := jxnm 161) jxcy0) jxcx0 rfl (jxat_mk (jxpc3 (j := 58) rfl) rfl) (jxat_mk (jxpc3 (j := 59) rfl) rfl) jxds7 (Or.inr ⟨rfl, rfl⟩) rfl
set_option maxRecDepth 100000 in
theorem jxchkM_162 : jxchkM 162 = true := jxM_1 rfl rfl (C := "CardClub") rfl (jxat_mk (jxpc3 (j := 68) rfl) rfl) (jxat_mk (jxpc1 (j := 1) rfl) rfl) (plainFor_of_name (x := jxnm 162) jxcy0) jxcx0 rfl (jxat_mk (jxpc3 (j := 66) rfl) rfl) (jxat_mk (jxpc3 (j := 67) rfl) rfl) jxds7 (Or.inr ⟨rfl, rfl⟩) rfl
set_option maxRecDepth 100000 in
theorem jxchkM_163 : jxchkM 163 = true := jxM_1 rfl rfl (C := "CardClub") rfl (jxat_mk (jxpc3 (j := 215) rfl) rfl) (jxat_mk (jxpc1 (j := 1) rfl) rfl) (plainFor_of_name (x := jxnm 163) jxcy0) jxcx0 rfl (jxat_mk (jxpc3 (j := 213) rfl) rfl) (jxat_mk (jxpc3 (j := 214) rfl) rfl) jxds13 (Or.inr ⟨rfl, rfl⟩) rfl
set_option maxRecDepth 100000 in
theorem jxchkM_164 : jxchkM 164 = true := jxM_1 rfl rfl (C := "CardClub") rfl (jxat_mk (jxpc4 (j := 5) rfl) rfl) (jxat_mk (jxpc1 (j := 1) rfl) rfl) (plainFor_of_name (x := jxnm 164) jxcy0) jxcx0 rfl (jxat_mk (jxpc4 (j := 3) rfl) rfl) (jxat_mk (jxpc4 (j := 4) rfl) rfl) jxds1 (Or.inr ⟨rfl, rfl⟩) rfl
set_option maxRecDepth 100000 in
theorem jxchkM_165 : jxchkM 165 = true := jxM_1 rfl rfl (C := "CardClub") rfl (jxat_mk (jxpc4 (j := 43) rfl) rfl) (jxat_mk (jxpc1 (j := 1) rfl) rfl) (plainFor_of_name (x := jxnm 165) jxcy0) jxcx0 rfl (jxat_mk (jxpc4 (j := 41) rfl) rfl) (jxat_mk (jxpc4 (j := 42) rfl) rfl) jxds7 (Or.inr ⟨rfl, rfl⟩) rfl
set_option maxRecDepth 100000 in
theorem jxchkM_166 : jxchkM 166 = true := jxM_1 rfl rfl (C := "CardClub") rfl (jxat_mk (jxpc4 (j := 178) rfl) rfl) (jxat_mk (jxpc1 (j := 1) rfl) rfl) (plainFor_of_name (x := jxnm 166) jxcy0) jxcx0 rfl (jxat_mk (jxpc4 (j := 176) rfl) rfl) (jxat_mk (jxpc4 (j := 177) rfl) rfl) jxds13 (Or.inr ⟨rfl, rfl⟩) rfl
set_option maxRecDepth 100000 in
theorem jxchkM_167 : jxchkM 167 = true := jxM_1 rfl rfl (C := "CardClub") rfl (jxat_mk (jxpc4 (j := 182) rfl) rfl) (jxat_mk (jxpc1 (j := 1) rfl) rfl) (plainFor_of_name (x := jxnm 167) jxcy0) jxcx0 rfl (jxat_mk (jxpc4 (j := 180) rfl) rfl) (jxat_mk (jxpc4 (j := 181) rfl) rfl) jxds7 (Or.inr ⟨rfl, rfl⟩) rfl
set_option maxRecDepth 100000 in
theorem jxchkM_168 : jxchkM 168 = true := jxM_1 rfl rfl (C := "CardClub") rfl (jxat_mk (jxpc4 (j := 186) rfl) rfl) (jxat_mk (jxpc1 (j := 1) rfl) rfl) (plainFor_of_name (x := jxnm 168) jxcy0) jxcx0 rfl (jxat_mk (jxpc4 (j := 184) rfl) rfl) (jxat_mk (jxpc4 (j := 185) rfl) rfl) jxds1 (Or.inr ⟨rfl, rfl⟩) rfl
set_option maxRecDepth 100000 in
theorem jxchkM_169 : jxchkM 169 = true := jxM_1 rfl rfl (C := "CardClub") rfl (jxat_mk (jxpc4 (j := 190) rfl) rfl) (jxat_mk (jxpc1 (j := 1) rfl) rfl) (plainFor_of_name (x := jxnm 169) jxcy0) jxcx0 rfl (jxat_mk (jxpc4 (j := 189) rfl) rfl) (jxat_mk (jxpc0 (j := 24) rfl) rfl) jxds1 (Or.inr ⟨rfl, rfl⟩) rfl
set_option maxRecDepth 100000 in
theorem jxchkM_170 : jxchkM 170 = true := jxM_1 rfl rfl (C := "CardClub") rfl (jxat_mk (jxpc4 (j := 110) rfl) rfl) (jxat_mk (jxpc1 (j := 1) rfl) rfl) (plainFor_of_name (x := jxnm 170) jxcy0) jxcx0 rfl (jxat_mk (jxpc4 (j := 109) rfl) rfl) (jxat_mk (jxpc0 (j := 19) rfl) rfl) jxds7 (Or.inr ⟨rfl, rfl⟩) rfl
set_option maxRecDepth 100000 in
theorem jxchkM_171 : jxchkM 171 = true := jxM_1 rfl rfl (C := "CardClub") rfl (jxat_mk (jxpc4 (j := 68) rfl) rfl) (jxat_mk (jxpc1 (j := 1) rfl) rfl) (plainFor_of_name (x := jxnm 171) jxcy0) jxcx0 rfl (jxat_mk (jxpc4 (j := 67) rfl) rfl) (jxat_mk (jxpc0 (j := 16) rfl) rfl) jxds11 (Or.inr ⟨rfl, rfl⟩) rfl
set_option maxRecDepth 100000 in
theorem jxchkM_172 : jxchkM 172 = true := jxM_1 rfl rfl (C := "CardClub") rfl (jxat_mk (jxpc4 (j := 105) rfl) rfl) (jxat_mk (jxpc1 (j := 1) rfl) rfl) (plainFor_of_name (x := jxnm 172) jxcy0) jxcx0 rfl (jxat_mk (jxpc4 (j := 104) rfl) rfl) (jxat_mk (jxpc0 (j := 18) rfl) rfl) jxds26 (Or.inr ⟨rfl, rfl⟩) rfl
set_option maxRecDepth 100000 in
theorem jxchkM_173 : jxchkM 173 = true := jxM_1 rfl rfl (C := "CardClub") rfl (jxat_mk (jxpc4 (j := 130) rfl) rfl) (jxat_mk (jxpc1 (j := 1) rfl) rfl) (plainFor_of_name (x := jxnm 173) jxcy0) jxcx0 rfl (jxat_mk (jxpc4 (j := 129) rfl) rfl) (jxat_mk (jxpc0 (j := 20) rfl) rfl) jxds13 (Or.inr ⟨rfl, rfl⟩) rfl
set_option maxRecDepth 100000 in
theorem jxchkM_174 : jxchkM 174 = true := jxM_1 rfl rfl (C := "CardClub") rfl (jxat_mk (jxpc4 (j := 89) rfl) rfl) (jxat_mk (jxpc1 (j := 1) rfl) rfl) (plainFor_of_name (x := jxnm 174) jxcy0) jxcx0 rfl (jxat_mk (jxpc4 (j := 88) rfl) rfl) (jxat_mk (jxpc0 (j := 17) rfl) rfl) jxds7 (Or.inr ⟨rfl, rfl⟩) rfl
set_option maxRecDepth 100000 in
theorem jxchkM_175 : jxchkM 175 = true := jxM_1 rfl rfl (C := "CardClub") rfl (jxat_mk (jxpc4 (j := 138) rfl) rfl) (jxat_mk (jxpc1 (j := 1) rfl) rfl) (plainFor_of_name (x := jxnm 175) jxcy0) jxcx0 rfl (jxat_mk (jxpc4 (j := 137) rfl) rfl) (jxat_mk (jxpc0 (j := 21) rfl) rfl) jxds20 (Or.inr ⟨rfl, rfl⟩) rfl
set_option maxRecDepth 100000 in
theorem jxchkM_176 : jxchkM 176 = true := jxM_1 rfl rfl (C := "CardClub") rfl (jxat_mk (jxpc4 (j := 146) rfl) rfl) (jxat_mk (jxpc1 (j := 1) rfl) rfl) (plainFor_of_name (x := jxnm 176) jxcy0) jxcx0 rfl (jxat_mk (jxpc4 (j := 145) rfl) rfl) (jxat_mk (jxpc0 (j := 22) rfl) rfl) jxds17 (Or.inr ⟨rfl, rfl⟩) rfl
set_option maxRecDepth 100000 in
theorem jxchkM_177 : jxchkM 177 = true := jxM_1 rfl rfl (C := "CardClub") rfl (jxat_mk (jxpc4 (j := 232) rfl) rfl) (jxat_mk (jxpc1 (j := 1) rfl) rfl) (plainFor_of_name (x := jxnm 177) jxcy0) jxcx0 rfl (jxat_mk (jxpc4 (j := 230) rfl) rfl) (jxat_mk (jxpc4 (j := 231) rfl) rfl) jxds16 (Or.inr ⟨rfl, rfl⟩) rfl
set_option maxRecDepth 100000 in
theorem jxchkM_178 : jxchkM 178 = true := jxM_1 rfl rfl (C := "CardClub") rfl (jxat_mk (jxpc5 (j := 5) rfl) rfl) (jxat_mk (jxpc1 (j := 1) rfl) rfl) (plainFor_of_name (x := jxnm 178) jxcy0) jxcx0 rfl (jxat_mk (jxpc5 (j := 3) rfl) rfl) (jxat_mk (jxpc5 (j := 4) rfl) rfl) jxds11 (Or.inr ⟨rfl, rfl⟩) rfl
set_option maxRecDepth 100000 in
theorem jxchkM_179 : jxchkM 179 = true := jxM_1 rfl rfl (C := "CardClub") rfl (jxat_mk (jxpc5 (j := 13) rfl) rfl) (jxat_mk (jxpc1 (j := 1) rfl) rfl) (plainFor_of_name (x := jxnm 179) jxcy0) jxcx0 rfl (jxat_mk (jxpc5 (j := 11) rfl) rfl) (jxat_mk (jxpc5 (j := 12) rfl) rfl) jxds13 (Or.inr ⟨rfl, rfl⟩) rfl
set_option maxRecDepth 100000 in
theorem jxchkM_180 : jxchkM 180 = true := jxM_1 rfl rfl (C := "CardClub") rfl (jxat_mk (jxpc5 (j := 31) rfl) rfl) (jxat_mk (jxpc1 (j := 1) rfl) rfl) (plainFor_of_name (x := jxnm 180) jxcy0) jxcx0 rfl (jxat_mk (jxpc5 (j := 29) rfl) rfl) (jxat_mk (jxpc5 (j := 30) rfl) rfl) jxds17 (Or.inr ⟨rfl, rfl⟩) rfl
set_option maxRecDepth 100000 in
theorem jxchkM_181 : jxchkM 181 = true := jxM_1 rfl rfl (C := "CardClub") rfl (jxat_mk (jxpc5 (j := 39) rfl) rfl) (jxat_mk (jxpc1 (j := 1) rfl) rfl) (plainFor_of_name (x := jxnm 181) jxcy0) jxcx0 rfl (jxat_mk (jxpc5 (j := 37) rfl) rfl) (jxat_mk (jxpc5 (j := 38) rfl) rfl) jxds13 (Or.inr ⟨rfl, rfl⟩) rfl
set_option maxRecDepth 100000 in
theorem jxchkM_182 : jxchkM 182 = true := jxM_1 rfl rfl (C := "CardClub") rfl (jxat_mk (jxpc5 (j := 48) rfl) rfl) (jxat_mk (jxpc1 (j := 1) rfl) rfl) (plainFor_of_name (x := jxnm 182) jxcy0) jxcx0 rfl (jxat_mk (jxpc5 (j := 46) rfl) rfl) (jxat_mk (jxpc5 (j := 47) rfl) rfl) jxds7 (Or.inr ⟨rfl, rfl⟩) rfl
set_option maxRecDepth 100000 in
theorem jxchkM_183 : jxchkM 183 = true := jxM_1 rfl rfl (C := "CardClub") rfl (jxat_mk (jxpc5 (j := 57) rfl) rfl) (jxat_mk (jxpc1 (j := 1) rfl) rfl) (plainFor_of_name (x := jxnm 183) jxcy0) jxcx0 rfl (jxat_mk (jxpc5 (j := 55) rfl) rfl) (jxat_mk (jxpc5 (j := 56) rfl) rfl) jxds17 (Or.inr ⟨rfl, rfl⟩) rfl
set_option maxRecDepth 100000 in
theorem jxchkM_184 : jxchkM 184 = true := jxM_1 rfl rfl (C := "CardClub") rfl (jxat_mk (jxpc5 (j := 74) rfl) rfl) (jxat_mk (jxpc1 (j := 1) rfl) rfl) (plainFor_of_name (x := jxnm 184) jxcy0) jxcx0 rfl (jxat_mk (jxpc5 (j := 72) rfl) rfl) (jxat_mk (jxpc5 (j := 73) rfl) rfl) jxds17 (Or.inr ⟨rfl, rfl⟩) rfl
set_option maxRecDepth 100000 in
theorem jxchkM_185 : jxchkM 185 = true := jxM_1 rfl rfl (C := "CardClub") rfl (jxat_mk (jxpc5 (j := 82) rfl) rfl) (jxat_mk (jxpc1 (j := 1) rfl) rfl) (plainFor_of_name (x := jxnm 185) jxcy0) jxcx0 rfl (jxat_mk (jxpc5 (j := 80) rfl) rfl) (jxat_mk (jxpc5 (j := 81) rfl) rfl) jxds11 (Or.inr ⟨rfl, rfl⟩) rfl
set_option maxRecDepth 100000 in
theorem jxchkM_186 : jxchkM 186 = true := jxM_1 rfl rfl (C := "CardClub") rfl (jxat_mk (jxpc5 (j := 90) rfl) rfl) (jxat_mk (jxpc1 (j := 1) rfl) rfl) (plainFor_of_name (x := jxnm 186) jxcy0) jxcx0 rfl (jxat_mk (jxpc5 (j := 88) rfl) rfl) (jxat_mk (jxpc5 (j := 89) rfl) rfl) jxds1 (Or.inr ⟨rfl, rfl⟩) rfl
set_option maxRecDepth 100000 in
theorem jxchkM_187 : jxchkM 187 = true := jxM_1 rfl rfl (C := "CardClub") rfl (jxat_mk (jxpc5 (j := 170) rfl) rfl) (jxat_mk (jxpc1 (j := 1) rfl) rfl) (plainFor_of_name (x := jxnm 187) jxcy0) jxcx0 rfl (jxat_mk (jxpc5 (j := 168) rfl) rfl) (jxat_mk (jxpc5 (j := 169) rfl) rfl) jxds13 (Or.inr ⟨rfl, rfl⟩) rfl
set_option maxRecDepth 100000 in
theorem jxchkM_188 : jxchkM 188 = true := jxM_1 rfl rfl (C := "CardClub") rfl (jxat_mk (jxpc5 (j := 182) rfl) rfl) (jxat_mk (jxpc1 (j := 1) rfl) rfl) (plainFor_of_name (x := jxnm 188) jxcy0) jxcx0 rfl (jxat_mk (jxpc5 (j := 180) rfl) rfl) (jxat_mk (jxpc5 (j := 181) rfl) rfl) jxds7 (Or.inr ⟨rfl, rfl⟩) rfl
set_option maxRecDepth 100000 in
theorem jxchkM_189 : jxchkM 189 = true := jxM_1 rfl rfl (C := "CardClub") rfl (jxat_mk (jxpc5 (j := 195) rfl) rfl) (jxat_mk (jxpc1 (j := 1) rfl) rfl) (plainFor_of_name (x := jxnm 189) jxcy0) jxcx0 rfl (jxat_mk (jxpc5 (j := 193) rfl) rfl) (jxat_mk (jxpc5 (j := 194) rfl) rfl) jxds13 (Or.inr ⟨rfl, rfl⟩) rfl
set_option maxRecDepth 100000 in
theorem jxchkM_190 : jxchkM 190 = true := jxM_1 rfl rfl (C := "CardClub") rfl (jxat_mk (jxpc5 (j := 204) rfl) rfl) (jxat_mk (jxpc1 (j := 1) rfl) rfl) (plainFor_of_name (x := jxnm 190) jxcy0) jxcx0 rfl (jxat_mk (jxpc5 (j := 202) rfl) rfl) (jxat_mk (jxpc5 (j := 203) rfl) rfl) jxds13 (Or.inr ⟨rfl, rfl⟩) rfl
set_option maxRecDepth 100000 in
theorem jxchkM_191 : jxchkM 191 = true := jxM_1 rfl rfl (C := "CardClub") rfl (jxat_mk (jxpc5 (j := 219) rfl) rfl) (jxat_mk (jxpc1 (j := 1) rfl) rfl) (plainFor_of_name (x := jxnm 191) jxcy0) jxcx0 rfl (jxat_mk (jxpc5 (j := 217) rfl) rfl) (jxat_mk (jxpc5 (j := 218) rfl) rfl) jxds7 (Or.inr ⟨rfl, rfl⟩) rfl
set_option maxRecDepth 100000 in
theorem jxchkM_192 : jxchkM 192 = true := jxM_1 rfl rfl (C := "CardClub") rfl (jxat_mk (jxpc6 (j := 10) rfl) rfl) (jxat_mk (jxpc1 (j := 1) rfl) rfl) (plainFor_of_name (x := jxnm 192) jxcy0) jxcx0 rfl (jxat_mk (jxpc6 (j := 8) rfl) rfl) (jxat_mk (jxpc6 (j := 9) rfl) rfl) jxds21 (Or.inr ⟨rfl, rfl⟩) rfl
set_option maxRecDepth 100000 in
theorem jxchkM_193 : jxchkM 193 = true := jxM_1 rfl rfl (C := "CardClub") rfl (jxat_mk (jxpc6 (j := 26) rfl) rfl) (jxat_mk (jxpc1 (j := 1) rfl) rfl) (plainFor_of_name (x := jxnm 193) jxcy0) jxcx0 rfl (jxat_mk (jxpc6 (j := 24) rfl) rfl) (jxat_mk (jxpc6 (j := 25) rfl) rfl) jxds20 (Or.inr ⟨rfl, rfl⟩) rfl
set_option maxRecDepth 100000 in
theorem jxchkM_194 : jxchkM 194 = true := jxM_1 rfl rfl (C := "CardClub") rfl (jxat_mk (jxpc6 (j := 35) rfl) rfl) (jxat_mk (jxpc1 (j := 1) rfl) rfl) (plainFor_of_name (x := jxnm 194) jxcy0) jxcx0 rfl (jxat_mk (jxpc6 (j := 33) rfl) rfl) (jxat_mk (jxpc6 (j := 34) rfl) rfl) jxds13 (Or.inr ⟨rfl, rfl⟩) rfl
set_option maxRecDepth 100000 in
theorem jxchkM_195 : jxchkM 195 = true := jxM_1 rfl rfl (C := "CardClub") rfl (jxat_mk (jxpc6 (j := 73) rfl) rfl) (jxat_mk (jxpc1 (j := 1) rfl) rfl) (plainFor_of_name (x := jxnm 195) jxcy0) jxcx0 rfl (jxat_mk (jxpc6 (j := 71) rfl) rfl) (jxat_mk (jxpc6 (j := 72) rfl) rfl) jxds7 (Or.inr ⟨rfl, rfl⟩) rfl
set_option maxRecDepth 100000 in
theorem jxchkM_196 : jxchkM 196 = true := jxM_1 rfl rfl (C := "CardClub") rfl (jxat_mk (jxpc6 (j := 14) rfl) rfl) (jxat_mk (jxpc1 (j := 1) rfl) rfl) (plainFor_of_name (x := jxnm 196) jxcy0) jxcx0 rfl (jxat_mk (jxpc6 (j := 13) rfl) rfl) (jxat_mk (jxpc0 (j := 41) rfl) rfl) jxds13 (Or.inr ⟨rfl, rfl⟩) rfl
set_option maxRecDepth 100000 in
theorem jxchkM_197 : jxchkM 197 = true := jxM_1 rfl rfl (C := "CardClub") rfl (jxat_mk (jxpc6 (j := 82) rfl) rfl) (jxat_mk (jxpc1 (j := 1) rfl) rfl) (plainFor_of_name (x := jxnm 197) jxcy0) jxcx0 rfl (jxat_mk (jxpc6 (j := 80) rfl) rfl) (jxat_mk (jxpc6 (j := 81) rfl) rfl) jxds7 (Or.inr ⟨rfl, rfl⟩) rfl
set_option maxRecDepth 100000 in
theorem jxchkM_198 : jxchkM 198 = true := jxM_1 rfl rfl (C := "CardClub") rfl (jxat_mk (jxpc6 (j := 103) rfl) rfl) (jxat_mk (jxpc1 (j := 1) rfl) rfl) (plainFor_of_name (x := jxnm 198) jxcy0) jxcx0 rfl (jxat_mk (jxpc6 (j := 102) rfl) rfl) (jxat_mk (jxpc0 (j := 48) rfl) rfl) jxds7 (Or.inr ⟨rfl, rfl⟩) rfl
set_option maxRecDepth 100000 in
theorem jxchkM_199 : jxchkM 199 = true := jxM_0 rfl rfl (C := "CardClub") rfl (jxat_mk (jxpc2 (j := 175) rfl) rfl) (jxat_mk (jxpc1 (j := 1) rfl) rfl) (plainFor_of_name (x := jxnm 199) jxcy0) jxcx0 rfl (jxat_mk (jxpc2 (j := 174) rfl) rfl) jxds19 rfl
set_option maxRecDepth 100000 in
theorem jxchkM_200 : jxchkM 200 = true := jxM_0 rfl rfl (C := "CardClub") rfl (jxat_mk (jxpc2 (j := 172) rfl) rfl) (jxat_mk (jxpc1 (j := 1) rfl) rfl) (plainFor_of_name (x := jxnm 200) jxcy0) jxcx0 rfl (jxat_mk (jxpc2 (j := 171) rfl) rfl) jxds10 rfl
set_option maxRecDepth 100000 in
theorem jxchkM_201 : jxchkM 201 = true := jxM_0 rfl rfl (C := "CardClub") rfl (jxat_mk (jxpc2 (j := 182) rfl) rfl) (jxat_mk (jxpc1 (j := 1) rfl) rfl) (plainFor_of_name (x := jxnm 201) jxcy0) jxcx0 rfl (jxat_mk (jxpc2 (j := 181) rfl) rfl) jxds10 rfl
set_option maxRecDepth 100000 in
theorem jxchkM_202 : jxchkM 202 = true := jxM_0 rfl rfl (C := "CardClub") rfl (jxat_mk (jxpc2 (j := 222) rfl) rfl) (jxat_mk (jxpc1 (j := 1) rfl) rfl) (plainFor_of_name (x := jxnm 202) jxcy0) jxcx0 rfl (jxat_mk (jxpc2 (j := 221) rfl) rfl) jxds43 rfl
set_option maxRecDepth 100000 in
theorem jxchkM_203 : jxchkM 203 = true := jxM_2 rfl rfl (C := "CardClubModel") rfl (jxat_mk (jxpc6 (j := 116) rfl) rfl) (jxat_mk (jxpc1 (j := 13) rfl) rfl) (plainFor_of_name (x := jxnm 203) jxcy12) jxcx12 rfl (jxat_mk (jxpc6 (j := 115) rfl) rfl) rfl jxds2 rfl rfl rfl
set_option maxRecDepth 100000 in
theorem jxchkM_204 : jxchkM 204 = true := jxM_0 rfl rfl (C := "CardClubModel") rfl (jxat_mk (jxpc7 (j := 122) rfl) rfl) (jxat_mk (jxpc1 (j := 13) rfl) rfl) (plainFor_of_name (x := jxnm 204) jxcy12) jxcx12 rfl (jxat_mk (jxpc7 (j := 121) rfl) rfl) jxds19 rfl
set_option maxRecDepth 100000 in
theorem jxchkM_205 : jxchkM 205 = true := jxM_0 rfl rfl (C := "CardClubModel") rfl (jxat_mk (jxpc7 (j := 224) rfl) rfl) (jxat_mk (jxpc1 (j := 13) rfl) rfl) (plainFor_of_name (x := jxnm 205) jxcy12) jxcx12 rfl (jxat_mk (jxpc7 (j := 223) rfl) rfl) jxds10 rfl
set_option maxRecDepth 100000 in
theorem jxchkM_206 : jxchkM 206 = true := jxM_0 rfl rfl (C := "CardClubModel") rfl (jxat_mk (jxpc7 (j := 129) rfl) rfl) (jxat_mk (jxpc1 (j := 13) rfl) rfl) (plainFor_of_name (x := jxnm 206) jxcy12) jxcx12 rfl (jxat_mk (jxpc7 (j := 128) rfl) rfl) jxds10 rfl
set_option maxRecDepth 100000 in
theorem jxchkM_207 : jxchkM 207 = true := jxM_1 rfl rfl (C := "CardClubModel") rfl (jxat_mk (jxpc7 (j := 154) rfl) rfl) (jxat_mk (jxpc1 (j := 13) rfl) rfl) (plainFor_of_name (x := jxnm 207) jxcy12) jxcx12 rfl (jxat_mk (jxpc7 (j := 153) rfl) rfl) (jxat_mk (jxpc0 (j := 50) rfl) rfl) jxds11 (Or.inr ⟨rfl, rfl⟩) rfl
set_option maxRecDepth 100000 in
theorem jxchkM_208 : jxchkM 208 = true := jxM_1 rfl rfl (C := "CardClubModel") rfl (jxat_mk (jxpc7 (j := 119) rfl) rfl) (jxat_mk (jxpc1 (j := 13) rfl) rfl) (plainFor_of_name (x := jxnm 208) jxcy12) jxcx12 rfl (jxat_mk (jxpc7 (j := 117) rfl) rfl) (jxat_mk (jxpc7 (j := 118) rfl) rfl) jxds11 (Or.inr ⟨rfl, rfl⟩) rfl
set_option maxRecDepth 100000 in
theorem jxchkM_209 : jxchkM 209 = true := jxM_1 rfl rfl (C := "CardClubModel") rfl (jxat_mk (jxpc7 (j := 126) rfl) rfl) (jxat_mk (jxpc1 (j := 13) rfl) rfl) (plainFor_of_name (x := jxnm 209) jxcy12) jxcx12 rfl (jxat_mk (jxpc7 (j := 124) rfl) rfl) (jxat_mk (jxpc7 (j := 125) rfl) rfl) jxds17 (Or.inr ⟨rfl, rfl⟩) rfl
set_option maxRecDepth 100000 in
theorem jxchkM_210 : jxchkM 210 = true := jxM_1 rfl rfl (C := "CardClubModel") rfl (jxat_mk (jxpc7 (j := 133) rfl) rfl) (jxat_mk (jxpc1 (j := 13) rfl) rfl) (plainFor_of_name (x := jxnm 210) jxcy12) jxcx12 rfl (jxat_mk (jxpc7 (j := 131) rfl) rfl) (jxat_mk (jxpc7 (j := 132) rfl) rfl) jxds17 (Or.inr ⟨rfl, rfl⟩) rfl
set_option maxRecDepth 100000 in
theorem jxchkM_211 : jxchkM 211 = true := jxM_1 rfl rfl (C := "CardClubModel") rfl (jxat_mk (jxpc7 (j := 142) rfl) rfl) (jxat_mk (jxpc1 (j := 13) rfl) rfl) (plainFor_of_name (x := jxnm 211) jxcy12) jxcx12 rfl (jxat_mk (jxpc7 (j := 141) rfl) rfl) (jxat_mk (jxpc0 (j := 49) rfl) rfl) jxds9 (Or.inr ⟨rfl, rfl⟩) rfl
set_option maxRecDepth 100000 in
theorem jxchkM_212 : jxchkM 212 = true := jxM_1 rfl rfl (C := "CardClubModel") rfl (jxat_mk (jxpc7 (j := 138) rfl) rfl) (jxat_mk (jxpc1 (j := 13) rfl) rfl) (plainFor_of_name (x := jxnm 212) jxcy12) jxcx12 rfl (jxat_mk (jxpc7 (j := 136) rfl) rfl) (jxat_mk (jxpc7 (j := 137) rfl) rfl) jxds23 (Or.inr ⟨rfl, rfl⟩) rfl
set_option maxRecDepth 100000 in
theorem jxchkM_213 : jxchkM 213 = true := jxM_1 rfl rfl (C := "CardClubModel") rfl (jxat_mk (jxpc7 (j := 146) rfl) rfl) (jxat_mk (jxpc1 (j := 13) rfl) rfl) (plainFor_of_name (x := jxnm 213) jxcy12) jxcx12 rfl (jxat_mk (jxpc7 (j := 144) rfl) rfl) (jxat_mk (jxpc7 (j := 145) rfl) rfl) jxds7 (Or.inr ⟨rfl, rfl⟩) rfl
set_option maxRecDepth 100000 in
theorem jxchkM_214 : jxchkM 214 = true := jxM_1 rfl rfl (C := "CardClubModel") rfl (jxat_mk (jxpc7 (j := 178) rfl) rfl) (jxat_mk (jxpc1 (j := 13) rfl) rfl) (plainFor_of_name (x := jxnm 214) jxcy12) jxcx12 rfl (jxat_mk (jxpc7 (j := 177) rfl) rfl) (jxat_mk (jxpc0 (j := 56) rfl) rfl) jxds16 (Or.inr ⟨rfl, rfl⟩) rfl
set_option maxRecDepth 100000 in
theorem jxchkM_215 : jxchkM 215 = true := jxM_1 rfl rfl (C := "CardClubModel") rfl (jxat_mk (jxpc7 (j := 158) rfl) rfl) (jxat_mk (jxpc1 (j := 13) rfl) rfl) (plainFor_of_name (x := jxnm 215) jxcy12) jxcx12 rfl (jxat_mk (jxpc7 (j := 157) rfl) rfl) (jxat_mk (jxpc0 (j := 51) rfl) rfl) jxds1 (Or.inr ⟨rfl, rfl⟩) rfl
set_option maxRecDepth 100000 in
theorem jxchkM_216 : jxchkM 216 = true := jxM_1 rfl rfl (C := "CardClubModel") rfl (jxat_mk (jxpc7 (j := 170) rfl) rfl) (jxat_mk (jxpc1 (j := 13) rfl) rfl) (plainFor_of_name (x := jxnm 216) jxcy12) jxcx12 rfl (jxat_mk (jxpc7 (j := 169) rfl) rfl) (jxat_mk (jxpc0 (j := 54) rfl) rfl) jxds1 (Or.inr ⟨rfl, rfl⟩) rfl
set_option maxRecDepth 100000 in
theorem jxchkM_217 : jxchkM 217 = true := jxM_1 rfl rfl (C := "CardClubModel") rfl (jxat_mk (jxpc7 (j := 182) rfl) rfl) (jxat_mk (jxpc1 (j := 13) rfl) rfl) (plainFor_of_name (x := jxnm 217) jxcy12) jxcx12 rfl (jxat_mk (jxpc7 (j := 181) rfl) rfl) (jxat_mk (jxpc0 (j := 57) rfl) rfl) jxds16 (Or.inr ⟨rfl, rfl⟩) rfl
set_option maxRecDepth 100000 in
theorem jxchkM_218 : jxchkM 218 = true := jxM_1 rfl rfl (C := "CardClubModel") rfl (jxat_mk (jxpc7 (j := 186) rfl) rfl) (jxat_mk (jxpc1 (j := 13) rfl) rfl) (plainFor_of_name (x := jxnm 218) jxcy12) jxcx12 rfl (jxat_mk (jxpc7 (j := 185) rfl) rfl) (jxat_mk (jxpc0 (j := 58) rfl) rfl) jxds9 (Or.inr ⟨rfl, rfl⟩) rfl
set_option maxRecDepth 100000 in
theorem jxchkM_219 : jxchkM 219 = true := jxM_1 rfl rfl (C := "CardClubModel") rfl (jxat_mk (jxpc7 (j := 190) rfl) rfl) (jxat_mk (jxpc1 (j := 13) rfl) rfl) (plainFor_of_name (x := jxnm 219) jxcy12) jxcx12 rfl (jxat_mk (jxpc7 (j := 189) rfl) rfl) (jxat_mk (jxpc0 (j := 59) rfl) rfl) jxds1 (Or.inr ⟨rfl, rfl⟩) rfl
set_option maxRecDepth 100000 in
theorem jxchkM_220 : jxchkM 220 = true := jxM_1 rfl rfl (C := "CardClubModel") rfl (jxat_mk (jxpc7 (j := 174) rfl) rfl) (jxat_mk (jxpc1 (j := 13) rfl) rfl) (plainFor_of_name (x := jxnm 220) jxcy12) jxcx12 rfl (jxat_mk (jxpc7 (j := 173) rfl) rfl) (jxat_mk (jxpc0 (j := 55) rfl) rfl) jxds11 (Or.inr ⟨rfl, rfl⟩) rfl
set_option maxRecDepth 100000 in
theorem jxchkM_221 : jxchkM 221 = true := jxM_1 rfl rfl (C := "CardClubModel") rfl (jxat_mk (jxpc7 (j := 194) rfl) rfl) (jxat_mk (jxpc1 (j := 13) rfl) rfl) (plainFor_of_name (x := jxnm 221) jxcy12) jxcx12 rfl (jxat_mk (jxpc7 (j := 193) rfl) rfl) (jxat_mk (jxpc0 (j := 60) rfl) rfl) jxds2 (Or.inr ⟨rfl, rfl⟩) rfl
set_option maxRecDepth 100000 in
theorem jxchkM_222 : jxchkM 222 = true := jxM_1 rfl rfl (C := "CardClubModel") rfl (jxat_mk (jxpc7 (j := 198) rfl) rfl) (jxat_mk (jxpc1 (j := 13) rfl) rfl) (plainFor_of_name (x := jxnm 222) jxcy12) jxcx12 rfl (jxat_mk (jxpc7 (j := 197) rfl) rfl) (jxat_mk (jxpc0 (j := 61) rfl) rfl) jxds9 (Or.inr ⟨rfl, rfl⟩) rfl
set_option maxRecDepth 100000 in
theorem jxchkM_223 : jxchkM 223 = true := jxM_1 rfl rfl (C := "CardClubModel") rfl (jxat_mk (jxpc7 (j := 166) rfl) rfl) (jxat_mk (jxpc1 (j := 13) rfl) rfl) (plainFor_of_name (x := jxnm 223) jxcy12) jxcx12 rfl (jxat_mk (jxpc7 (j := 165) rfl) rfl) (jxat_mk (jxpc0 (j := 53) rfl) rfl) jxds3 (Or.inr ⟨rfl, rfl⟩) rfl
set_option maxRecDepth 100000 in
theorem jxchkM_224 : jxchkM 224 = true := jxM_1 rfl rfl (C := "CardClubModel") rfl (jxat_mk (jxpc7 (j := 162) rfl) rfl) (jxat_mk (jxpc1 (j := 13) rfl) rfl) (plainFor_of_name (x := jxnm 224) jxcy12) jxcx12 rfl (jxat_mk (jxpc7 (j := 161) rfl) rfl) (jxat_mk (jxpc0 (j := 52) rfl) rfl) jxds3 (Or.inr ⟨rfl, rfl⟩) rfl
set_option maxRecDepth 100000 in
theorem jxchkM_225 : jxchkM 225 = true := jxM_1 rfl rfl (C := "CardClubModel") rfl (jxat_mk (jxpc7 (j := 150) rfl) rfl) (jxat_mk (jxpc1 (j := 13) rfl) rfl) (plainFor_of_name (x := jxnm 225) jxcy12) jxcx12 rfl (jxat_mk (jxpc7 (j := 148) rfl) rfl) (jxat_mk (jxpc7 (j := 149) rfl) rfl) jxds7 (Or.inr ⟨rfl, rfl⟩) rfl
set_option maxRecDepth 100000 in
theorem jxchkM_226 : jxchkM 226 = true := jxM_1 rfl rfl (C := "CardClubModel") rfl (jxat_mk (jxpc7 (j := 210) rfl) rfl) (jxat_mk (jxpc1 (j := 13) rfl) rfl) (plainFor_of_name (x := jxnm 226) jxcy12) jxcx12 rfl (jxat_mk (jxpc7 (j := 209) rfl) rfl) (jxat_mk (jxpc0 (j := 63) rfl) rfl) jxds20 (Or.inr ⟨rfl, rfl⟩) rfl
set_option maxRecDepth 100000 in
theorem jxchkM_227 : jxchkM 227 = true := jxM_1 rfl rfl (C := "CardClubModel") rfl (jxat_mk (jxpc7 (j := 206) rfl) rfl) (jxat_mk (jxpc1 (j := 13) rfl) rfl) (plainFor_of_name (x := jxnm 227) jxcy12) jxcx12 rfl (jxat_mk (jxpc7 (j := 205) rfl) rfl) (jxat_mk (jxpc0 (j := 62) rfl) rfl) jxds16 (Or.inr ⟨rfl, rfl⟩) rfl
set_option maxRecDepth 100000 in
theorem jxchkM_228 : jxchkM 228 = true := jxM_1 rfl rfl (C := "CardClubModel") rfl (jxat_mk (jxpc7 (j := 202) rfl) rfl) (jxat_mk (jxpc1 (j := 13) rfl) rfl) (plainFor_of_name (x := jxnm 228) jxcy12) jxcx12 rfl (jxat_mk (jxpc7 (j := 200) rfl) rfl) (jxat_mk (jxpc7 (j := 201) rfl) rfl) jxds13 (Or.inr ⟨rfl, rfl⟩) rfl
set_option maxRecDepth 100000 in
theorem jxchkM_229 : jxchkM 229 = true := jxM_1 rfl rfl (C := "CardClubModel") rfl (jxat_mk (jxpc8 (j := 41) rfl) rfl) (jxat_mk (jxpc1 (j := 13) rfl) rfl) (plainFor_of_name (x := jxnm 229) jxcy12) jxcx12 rfl (jxat_mk (jxpc8 (j := 40) rfl) rfl) (jxat_mk (jxpc0 (j := 75) rfl) rfl) jxds13 (Or.inr ⟨rfl, rfl⟩) rfl
set_option maxRecDepth 100000 in
theorem jxchkM_230 : jxchkM 230 = true := jxM_0 rfl rfl (C := "CardClubModel") rfl (jxat_mk (jxpc6 (j := 120) rfl) rfl) (jxat_mk (jxpc1 (j := 13) rfl) rfl) (plainFor_of_name (x := jxnm 230) jxcy12) jxcx12 rfl (jxat_mk (jxpc6 (j := 119) rfl) rfl) jxds6 rfl
set_option maxRecDepth 100000 in
theorem jxchkM_231 : jxchkM 231 = true := jxM_0 rfl rfl (C := "CardClubModel") rfl (jxat_mk (jxpc7 (j := 217) rfl) rfl) (jxat_mk (jxpc1 (j := 13) rfl) rfl) (plainFor_of_name (x := jxnm 231) jxcy12) jxcx12 rfl (jxat_mk (jxpc7 (j := 216) rfl) rfl) jxds6 rfl
set_option maxRecDepth 100000 in
theorem jxchkM_232 : jxchkM 232 = true := jxM_1 rfl rfl (C := "CardClubModel") rfl (jxat_mk (jxpc7 (j := 214) rfl) rfl) (jxat_mk (jxpc1 (j := 13) rfl) rfl) (plainFor_of_name (x := jxnm 232) jxcy12) jxcx12 rfl (jxat_mk (jxpc7 (j := 212) rfl) rfl) (jxat_mk (jxpc7 (j := 213) rfl) rfl) jxds1 (Or.inr ⟨rfl, rfl⟩) rfl
set_option maxRecDepth 100000 in
theorem jxchkM_233 : jxchkM 233 = true := jxM_1 rfl rfl (C := "CardClubModel") rfl (jxat_mk (jxpc7 (j := 232) rfl) rfl) (jxat_mk (jxpc1 (j := 13) rfl) rfl) (plainFor_of_name (x := jxnm 233) jxcy12) jxcx12 rfl (jxat_mk (jxpc7 (j := 231) rfl) rfl) (jxat_mk (jxpc0 (j := 65) rfl) rfl) jxds13 (Or.inr ⟨rfl, rfl⟩) rfl
set_option maxRecDepth 100000 in
theorem jxchkM_234 : jxchkM 234 = true := jxM_1 rfl rfl (C := "CardClubModel") rfl (jxat_mk (jxpc7 (j := 228) rfl) rfl) (jxat_mk (jxpc1 (j := 13) rfl) rfl) (plainFor_of_name (x := jxnm 234) jxcy12) jxcx12 rfl (jxat_mk (jxpc7 (j := 227) rfl) rfl) (jxat_mk (jxpc0 (j := 64) rfl) rfl) jxds17 (Or.inr ⟨rfl, rfl⟩) rfl
set_option maxRecDepth 100000 in
theorem jxchkM_235 : jxchkM 235 = true := jxM_1 rfl rfl (C := "CardClubModel") rfl (jxat_mk (jxpc8 (j := 29) rfl) rfl) (jxat_mk (jxpc1 (j := 13) rfl) rfl) (plainFor_of_name (x := jxnm 235) jxcy12) jxcx12 rfl (jxat_mk (jxpc8 (j := 28) rfl) rfl) (jxat_mk (jxpc0 (j := 72) rfl) rfl) jxds7 (Or.inr ⟨rfl, rfl⟩) rfl
set_option maxRecDepth 100000 in
theorem jxchkM_236 : jxchkM 236 = true := jxM_1 rfl rfl (C := "CardClubModel") rfl (jxat_mk (jxpc8 (j := 25) rfl) rfl) (jxat_mk (jxpc1 (j := 13) rfl) rfl) (plainFor_of_name (x := jxnm 236) jxcy12) jxcx12 rfl (jxat_mk (jxpc8 (j := 24) rfl) rfl) (jxat_mk (jxpc0 (j := 71) rfl) rfl) jxds11 (Or.inr ⟨rfl, rfl⟩) rfl
set_option maxRecDepth 100000 in
theorem jxchkM_237 : jxchkM 237 = true := jxM_1 rfl rfl (C := "CardClubModel") rfl (jxat_mk (jxpc7 (j := 221) rfl) rfl) (jxat_mk (jxpc1 (j := 13) rfl) rfl) (plainFor_of_name (x := jxnm 237) jxcy12) jxcx12 rfl (jxat_mk (jxpc7 (j := 219) rfl) rfl) (jxat_mk (jxpc7 (j := 220) rfl) rfl) jxds17 (Or.inr ⟨rfl, rfl⟩) rfl
set_option maxRecDepth 100000 in
theorem jxchkM_238 : jxchkM 238 = true := jxM_1 rfl rfl (C := "CardClubModel") rfl (jxat_mk (jxpc8 (j := 0) rfl) rfl) (jxat_mk (jxpc1 (j := 13) rfl) rfl) (plainFor_of_name (x := jxnm 238) jxcy12) jxcx12 rfl (jxat_mk (jxpc7 (j := 239) rfl) rfl) (jxat_mk (jxpc0 (j := 66) rfl) rfl) jxds15 (Or.inr ⟨rfl, rfl⟩) rfl
set_option maxRecDepth 100000 in
theorem jxchkM_239 : jxchkM 239 = true := jxM_1 rfl rfl (C := "CardClubModel") rfl (jxat_mk (jxpc7 (j := 236) rfl) rfl) (jxat_mk (jxpc1 (j := 13) rfl) rfl) (plainFor_of_name (x := jxnm 239) jxcy12) jxcx12 rfl (jxat_mk (jxpc7 (j := 234) rfl) rfl) (jxat_mk (jxpc7 (j := 235) rfl) rfl) jxds17 (Or.inr ⟨rfl, rfl⟩) rfl
set_option maxRecDepth 100000 in
theorem jxchkM_240 : jxchkM 240 = true := jxM_1 rfl rfl (C := "CardClubModel") rfl (jxat_mk (jxpc8 (j := 61) rfl) rfl) (jxat_mk (jxpc1 (j := 13) rfl) rfl) (plainFor_of_name (x := jxnm 240) jxcy12) jxcx12 rfl (jxat_mk (jxpc8 (j := 60) rfl) rfl) (jxat_mk (jxpc0 (j := 79) rfl) rfl) jxds17 (Or.inr ⟨rfl, rfl⟩) rfl
set_option maxRecDepth 100000 in
theorem jxchkM_241 : jxchkM 241 = true := jxM_1 rfl rfl (C := "CardClubModel") rfl (jxat_mk (jxpc8 (j := 21) rfl) rfl) (jxat_mk (jxpc1 (j := 13) rfl) rfl) (plainFor_of_name (x := jxnm 241) jxcy12) jxcx12 rfl (jxat_mk (jxpc8 (j := 20) rfl) rfl) (jxat_mk (jxpc0 (j := 70) rfl) rfl) jxds7 (Or.inr ⟨rfl, rfl⟩) rfl
set_option maxRecDepth 100000 in
theorem jxchkM_242 : jxchkM 242 = true := jxM_1 rfl rfl (C := "CardClubModel") rfl (jxat_mk (jxpc8 (j := 33) rfl) rfl) (jxat_mk (jxpc1 (j := 13) rfl) rfl) (plainFor_of_name (x := jxnm 242) jxcy12) jxcx12 rfl (jxat_mk (jxpc8 (j := 32) rfl) rfl) (jxat_mk (jxpc0 (j := 73) rfl) rfl) jxds7 (Or.inr ⟨rfl, rfl⟩) rfl
set_option maxRecDepth 100000 in
theorem jxchkM_243 : jxchkM 243 = true := jxM_1 rfl rfl (C := "CardClubModel") rfl (jxat_mk (jxpc8 (j := 37) rfl) rfl) (jxat_mk (jxpc1 (j := 13) rfl) rfl) (plainFor_of_name (x := jxnm 243) jxcy12) jxcx12 rfl (jxat_mk (jxpc8 (j := 36) rfl) rfl) (jxat_mk (jxpc0 (j := 74) rfl) rfl) jxds7 (Or.inr ⟨rfl, rfl⟩) rfl
set_option maxRecDepth 100000 in
theorem jxchkM_244 : jxchkM 244 = true := jxM_1 rfl rfl (C := "CardClubModel") rfl (jxat_mk (jxpc8 (j := 53) rfl) rfl) (jxat_mk (jxpc1 (j := 13) rfl) rfl) (plainFor_of_name (x := jxnm 244) jxcy12) jxcx12 rfl (jxat_mk (jxpc8 (j := 52) rfl) rfl) (jxat_mk (jxpc0 (j := 77) rfl) rfl) jxds13 (Or.inr ⟨rfl, rfl⟩) rfl
set_option maxRecDepth 100000 in
theorem jxchkM_245 : jxchkM 245 = true := jxM_1 rfl rfl (C := "CardClubModel") rfl (jxat_mk (jxpc8 (j := 17) rfl) rfl) (jxat_mk (jxpc1 (j := 13) rfl) rfl) (plainFor_of_name (x := jxnm 245) jxcy12) jxcx12 rfl (jxat_mk (jxpc8 (j := 16) rfl) rfl) (jxat_mk (jxpc0 (j := 69) rfl) rfl) jxds7 (Or.inr ⟨rfl, rfl⟩) rfl
set_option maxRecDepth 100000 in
theorem jxchkM_246 : jxchkM 246 = true := jxM_1 rfl rfl (C := "CardClubModel") rfl (jxat_mk (jxpc8 (j := 49) rfl) rfl) (jxat_mk (jxpc1 (j := 13) rfl) rfl) (plainFor_of_name (x := jxnm 246) jxcy12) jxcx12 rfl (jxat_mk (jxpc8 (j := 48) rfl) rfl) (jxat_mk (jxpc0 (j := 76) rfl) rfl) jxds11 (Or.inr ⟨rfl, rfl⟩) rfl
set_option maxRecDepth 100000 in
theorem jxchkM_247 : jxchkM 247 = true := jxM_1 rfl rfl (C := "CardClubModel") rfl (jxat_mk (jxpc8 (j := 13) rfl) rfl) (jxat_mk (jxpc1 (j := 13) rfl) rfl) (plainFor_of_name (x := jxnm 247) jxcy12) jxcx12 rfl (jxat_mk (jxpc8 (j := 12) rfl) rfl) (jxat_mk (jxpc0 (j := 68) rfl) rfl) jxds16 (Or.inr ⟨rfl, rfl⟩) rfl
set_option maxRecDepth 100000 in
theorem jxchkM_248 : jxchkM 248 = true := jxM_1 rfl rfl (C := "CardClubModel") rfl (jxat_mk (jxpc8 (j := 9) rfl) rfl) (jxat_mk (jxpc1 (j := 13) rfl) rfl) (plainFor_of_name (x := jxnm 248) jxcy12) jxcx12 rfl (jxat_mk (jxpc8 (j := 8) rfl) rfl) (jxat_mk (jxpc0 (j := 67) rfl) rfl) jxds16 (Or.inr ⟨rfl, rfl⟩) rfl
set_option maxRecDepth 100000 in
theorem jxchkM_249 : jxchkM 249 = true := jxM_1 rfl rfl (C := "CardClubModel") rfl (jxat_mk (jxpc8 (j := 5) rfl) rfl) (jxat_mk (jxpc1 (j := 13) rfl) rfl) (plainFor_of_name (x := jxnm 249) jxcy12) jxcx12 rfl (jxat_mk (jxpc8 (j := 3) rfl) rfl) (jxat_mk (jxpc8 (j := 4) rfl) rfl) jxds13 (Or.inr ⟨rfl, rfl⟩) rfl
set_option maxRecDepth 100000 in
theorem jxchkM_250 : jxchkM 250 = true := jxM_1 rfl rfl (C := "CardClubModel") rfl (jxat_mk (jxpc8 (j := 57) rfl) rfl) (jxat_mk (jxpc1 (j := 13) rfl) rfl) (plainFor_of_name (x := jxnm 250) jxcy12) jxcx12 rfl (jxat_mk (jxpc8 (j := 56) rfl) rfl) (jxat_mk (jxpc0 (j := 78) rfl) rfl) jxds7 (Or.inr ⟨rfl, rfl⟩) rfl
set_option maxRecDepth 100000 in
theorem jxchkM_251 : jxchkM 251 = true := jxM_1 rfl rfl (C := "CardClubModel") rfl (jxat_mk (jxpc8 (j := 45) rfl) rfl) (jxat_mk (jxpc1 (j := 13) rfl) rfl) (plainFor_of_name (x := jxnm 251) jxcy12) jxcx12 rfl (jxat_mk (jxpc8 (j := 43) rfl) rfl) (jxat_mk (jxpc8 (j := 44) rfl) rfl) jxds7 (Or.inr ⟨rfl, rfl⟩) rfl
set_option maxRecDepth 100000 in
theorem jxchkM_252 : jxchkM 252 = true := jxM_1 rfl rfl (C := "CardClubModel") rfl (jxat_mk (jxpc8 (j := 65) rfl) rfl) (jxat_mk (jxpc1 (j := 13) rfl) rfl) (plainFor_of_name (x := jxnm 252) jxcy12) jxcx12 rfl (jxat_mk (jxpc8 (j := 63) rfl) rfl) (jxat_mk (jxpc8 (j := 64) rfl) rfl) jxds7 (Or.inr ⟨rfl, rfl⟩) rfl
set_option maxRecDepth 100000 in
theorem jxchkM_253 : jxchkM 253 = true := jxM_1 rfl rfl (C := "CardClubModel") rfl (jxat_mk (jxpc8 (j := 80) rfl) rfl) (jxat_mk (jxpc1 (j := 13) rfl) rfl) (plainFor_of_name (x := jxnm 253) jxcy12) jxcx12 rfl (jxat_mk (jxpc8 (j := 79) rfl) rfl) (jxat_mk (jxpc0 (j := 81) rfl) rfl) jxds28 (Or.inr ⟨rfl, rfl⟩) rfl
set_option maxRecDepth 100000 in
theorem jxchkM_254 : jxchkM 254 = true := jxM_1 rfl rfl (C := "CardClubModel") rfl (jxat_mk (jxpc8 (j := 73) rfl) rfl) (jxat_mk (jxpc1 (j := 13) rfl) rfl) (plainFor_of_name (x := jxnm 254) jxcy12) jxcx12 rfl (jxat_mk (jxpc8 (j := 72) rfl) rfl) (jxat_mk (jxpc0 (j := 80) rfl) rfl) jxds2 (Or.inr ⟨rfl, rfl⟩) rfl
set_option maxRecDepth 100000 in
theorem jxchkM_255 : jxchkM 255 = true := jxM_1 rfl rfl (C := "CardClubModel") rfl (jxat_mk (jxpc8 (j := 69) rfl) rfl) (jxat_mk (jxpc1 (j := 13) rfl) rfl) (plainFor_of_name (x := jxnm 255) jxcy12) jxcx12 rfl (jxat_mk (jxpc8 (j := 67) rfl) rfl) (jxat_mk (jxpc8 (j := 68) rfl) rfl) jxds1 (Or.inr ⟨rfl, rfl⟩) rfl
set_option maxRecDepth 100000 in
theorem jxchkM_256 : jxchkM 256 = true := jxM_1 rfl rfl (C := "CardClubModel") rfl (jxat_mk (jxpc8 (j := 88) rfl) rfl) (jxat_mk (jxpc1 (j := 13) rfl) rfl) (plainFor_of_name (x := jxnm 256) jxcy12) jxcx12 rfl (jxat_mk (jxpc8 (j := 87) rfl) rfl) (jxat_mk (jxpc0 (j := 82) rfl) rfl) jxds15 (Or.inr ⟨rfl, rfl⟩) rfl
set_option maxRecDepth 100000 in
theorem jxchkM_257 : jxchkM 257 = true := jxM_1 rfl rfl (C := "CardClubModel") rfl (jxat_mk (jxpc8 (j := 84) rfl) rfl) (jxat_mk (jxpc1 (j := 13) rfl) rfl) (plainFor_of_name (x := jxnm 257) jxcy12) jxcx12 rfl (jxat_mk (jxpc8 (j := 82) rfl) rfl) (jxat_mk (jxpc8 (j := 83) rfl) rfl) jxds16 (Or.inr ⟨rfl, rfl⟩) rfl
set_option maxRecDepth 100000 in
theorem jxchkM_258 : jxchkM 258 = true := jxM_1 rfl rfl (C := "CardClubModel") rfl (jxat_mk (jxpc8 (j := 92) rfl) rfl) (jxat_mk (jxpc1 (j := 13) rfl) rfl) (plainFor_of_name (x := jxnm 258) jxcy12) jxcx12 rfl (jxat_mk (jxpc8 (j := 90) rfl) rfl) (jxat_mk (jxpc8 (j := 91) rfl) rfl) jxds11 (Or.inr ⟨rfl, rfl⟩) rfl
set_option maxRecDepth 100000 in
theorem jxchkM_259 : jxchkM 259 = true := jxM_1 rfl rfl (C := "CardClubModel") rfl (jxat_mk (jxpc8 (j := 96) rfl) rfl) (jxat_mk (jxpc1 (j := 13) rfl) rfl) (plainFor_of_name (x := jxnm 259) jxcy12) jxcx12 rfl (jxat_mk (jxpc8 (j := 94) rfl) rfl) (jxat_mk (jxpc8 (j := 95) rfl) rfl) jxds13 (Or.inr ⟨rfl, rfl⟩) rfl
set_option maxRecDepth 100000 in
theorem jxchkM_260 : jxchkM 260 = true := jxM_1 rfl rfl (C := "CardClubModel") rfl (jxat_mk (jxpc8 (j := 100) rfl) rfl) (jxat_mk (jxpc1 (j := 13) rfl) rfl) (plainFor_of_name (x := jxnm 260) jxcy12) jxcx12 rfl (jxat_mk (jxpc8 (j := 98) rfl) rfl) (jxat_mk (jxpc8 (j := 99) rfl) rfl) jxds13 (Or.inr ⟨rfl, rfl⟩) rfl
set_option maxRecDepth 100000 in
theorem jxchkM_261 : jxchkM 261 = true := jxM_1 rfl rfl (C := "CardClubModel") rfl (jxat_mk (jxpc8 (j := 104) rfl) rfl) (jxat_mk (jxpc1 (j := 13) rfl) rfl) (plainFor_of_name (x := jxnm 261) jxcy12) jxcx12 rfl (jxat_mk (jxpc8 (j := 102) rfl) rfl) (jxat_mk (jxpc8 (j := 103) rfl) rfl) jxds7 (Or.inr ⟨rfl, rfl⟩) rfl
set_option maxRecDepth 100000 in
theorem jxchkM_262 : jxchkM 262 = true := jxM_1 rfl rfl (C := "CardClubModel") rfl (jxat_mk (jxpc8 (j := 108) rfl) rfl) (jxat_mk (jxpc1 (j := 13) rfl) rfl) (plainFor_of_name (x := jxnm 262) jxcy12) jxcx12 rfl (jxat_mk (jxpc8 (j := 106) rfl) rfl) (jxat_mk (jxpc8 (j := 107) rfl) rfl) jxds17 (Or.inr ⟨rfl, rfl⟩) rfl
set_option maxRecDepth 100000 in
theorem jxchkM_263 : jxchkM 263 = true := jxM_1 rfl rfl (C := "CardClubModel") rfl (jxat_mk (jxpc8 (j := 112) rfl) rfl) (jxat_mk (jxpc1 (j := 13) rfl) rfl) (plainFor_of_name (x := jxnm 263) jxcy12) jxcx12 rfl (jxat_mk (jxpc8 (j := 110) rfl) rfl) (jxat_mk (jxpc8 (j := 111) rfl) rfl) jxds11 (Or.inr ⟨rfl, rfl⟩) rfl
set_option maxRecDepth 100000 in
theorem jxchkM_264 : jxchkM 264 = true := jxM_1 rfl rfl (C := "CardClubModel") rfl (jxat_mk (jxpc8 (j := 128) rfl) rfl) (jxat_mk (jxpc1 (j := 13) rfl) rfl) (plainFor_of_name (x := jxnm 264) jxcy12) jxcx12 rfl (jxat_mk (jxpc8 (j := 127) rfl) rfl) (jxat_mk (jxpc0 (j := 85) rfl) rfl) jxds16 (Or.inr ⟨rfl, rfl⟩) rfl
set_option maxRecDepth 100000 in
theorem jxchkM_265 : jxchkM 265 = true := jxM_1 rfl rfl (C := "CardClubModel") rfl (jxat_mk (jxpc8 (j := 124) rfl) rfl) (jxat_mk (jxpc1 (j := 13) rfl) rfl) (plainFor_of_name (x := jxnm 265) jxcy12) jxcx12 rfl (jxat_mk (jxpc8 (j := 123) rfl) rfl) (jxat_mk (jxpc0 (j := 84) rfl) rfl) jxds16 (Or.inr ⟨rfl, rfl⟩) rfl
set_option maxRecDepth 100000 in
theorem jxchkM_266 : jxchkM 266 = true := jxM_1 rfl rfl (C := "CardClubModel") rfl (jxat_mk (jxpc8 (j := 132) rfl) rfl) (jxat_mk (jxpc1 (j := 13) rfl) rfl) (plainFor_of_name (x := jxnm 266) jxcy12) jxcx12 rfl (jxat_mk (jxpc8 (j := 131) rfl) rfl) (jxat_mk (jxpc0 (j := 86) rfl) rfl) jxds9 (Or.inr ⟨rfl, rfl⟩) rfl
set_option maxRecDepth 100000 in
theorem jxchkM_267 : jxchkM 267 = true := jxM_1 rfl rfl (C := "CardClubModel") rfl (jxat_mk (jxpc8 (j := 120) rfl) rfl) (jxat_mk (jxpc1 (j := 13) rfl) rfl) (plainFor_of_name (x := jxnm 267) jxcy12) jxcx12 rfl (jxat_mk (jxpc8 (j := 119) rfl) rfl) (jxat_mk (jxpc0 (j := 83) rfl) rfl) jxds9 (Or.inr ⟨rfl, rfl⟩) rfl
set_option maxRecDepth 100000 in
theorem jxchkM_268 : jxchkM 268 = true := jxM_0 rfl rfl (C := "CardClubModel") rfl (jxat_mk (jxpc8 (j := 142) rfl) rfl) (jxat_mk (jxpc1 (j := 13) rfl) rfl) (plainFor_of_name (x := jxnm 268) jxcy12) jxcx12 rfl (jxat_mk (jxpc8 (j := 141) rfl) rfl) jxds6 rfl
set_option maxRecDepth 100000 in
theorem jxchkM_269 : jxchkM 269 = true := jxM_0 rfl rfl (C := "CardClubModel") rfl (jxat_mk (jxpc8 (j := 135) rfl) rfl) (jxat_mk (jxpc1 (j := 13) rfl) rfl) (plainFor_of_name (x := jxnm 269) jxcy12) jxcx12 rfl (jxat_mk (jxpc8 (j := 134) rfl) rfl) jxds6 rfl
set_option maxRecDepth 100000 in
theorem jxchkM_270 : jxchkM 270 = true := jxM_1 rfl rfl (C := "CardClubModel") rfl (jxat_mk (jxpc8 (j := 139) rfl) rfl) (jxat_mk (jxpc1 (j := 13) rfl) rfl) (plainFor_of_name (x := jxnm 270) jxcy12) jxcx12 rfl (jxat_mk (jxpc8 (j := 138) rfl) rfl) (jxat_mk (jxpc0 (j := 87) rfl) rfl) jxds13 (Or.inr ⟨rfl, rfl⟩) rfl
set_option maxRecDepth 100000 in
theorem jxchkM_271 : jxchkM 271 = true := jxM_1 rfl rfl (C := "CardClubModel") rfl (jxat_mk (jxpc8 (j := 116) rfl) rfl) (jxat_mk (jxpc1 (j := 13) rfl) rfl) (plainFor_of_name (x := jxnm 271) jxcy12) jxcx12 rfl (jxat_mk (jxpc8 (j := 114) rfl) rfl) (jxat_mk (jxpc8 (j := 115) rfl) rfl) jxds1 (Or.inr ⟨rfl, rfl⟩) rfl
set_option maxRecDepth 100000 in
theorem jxchkM_272 : jxchkM 272 = true := jxM_1 rfl rfl (C := "CardClubModel") rfl (jxat_mk (jxpc8 (j := 146) rfl) rfl) (jxat_mk (jxpc1 (j := 13) rfl) rfl) (plainFor_of_name (x := jxnm 272) jxcy12) jxcx12 rfl (jxat_mk (jxpc8 (j := 145) rfl) rfl) (jxat_mk (jxpc0 (j := 88) rfl) rfl) jxds2 (Or.inr ⟨rfl, rfl⟩) rfl
set_option maxRecDepth 100000 in
theorem jxchkM_273 : jxchkM 273 = true := jxM_1 rfl rfl (C := "CardClubModel") rfl (jxat_mk (jxpc8 (j := 150) rfl) rfl) (jxat_mk (jxpc1 (j := 13) rfl) rfl) (plainFor_of_name (x := jxnm 273) jxcy12) jxcx12 rfl (jxat_mk (jxpc8 (j := 148) rfl) rfl) (jxat_mk (jxpc8 (j := 149) rfl) rfl) jxds13 (Or.inr ⟨rfl, rfl⟩) rfl
set_option maxRecDepth 100000 in
theorem jxchkM_274 : jxchkM 274 = true := jxM_1 rfl rfl (C := "CardClubModel") rfl (jxat_mk (jxpc8 (j := 154) rfl) rfl) (jxat_mk (jxpc1 (j := 13) rfl) rfl) (plainFor_of_name (x := jxnm 274) jxcy12) jxcx12 rfl (jxat_mk (jxpc8 (j := 152) rfl) rfl) (jxat_mk (jxpc8 (j := 153) rfl) rfl) jxds7 (Or.inr ⟨rfl, rfl⟩) rfl
set_option maxRecDepth 100000 in
theorem jxchkM_275 : jxchkM 275 = true := jxM_1 rfl rfl (C := "CardClubModel") rfl (jxat_mk (jxpc8 (j := 170) rfl) rfl) (jxat_mk (jxpc1 (j := 13) rfl) rfl) (plainFor_of_name (x := jxnm 275) jxcy12) jxcx12 rfl (jxat_mk (jxpc8 (j := 169) rfl) rfl) (jxat_mk (jxpc0 (j := 91) rfl) rfl) jxds13 (Or.inr ⟨rfl, rfl⟩) rfl
set_option maxRecDepth 100000 in
theorem jxchkM_276 : jxchkM 276 = true := jxM_1 rfl rfl (C := "CardClubModel") rfl (jxat_mk (jxpc8 (j := 162) rfl) rfl) (jxat_mk (jxpc1 (j := 13) rfl) rfl) (plainFor_of_name (x := jxnm 276) jxcy12) jxcx12 rfl (jxat_mk (jxpc8 (j := 161) rfl) rfl) (jxat_mk (jxpc0 (j := 89) rfl) rfl) jxds13 (Or.inr ⟨rfl, rfl⟩) rfl
set_option maxRecDepth 100000 in
theorem jxchkM_277 : jxchkM 277 = true := jxM_1 rfl rfl (C := "CardClubModel") rfl (jxat_mk (jxpc8 (j := 166) rfl) rfl) (jxat_mk (jxpc1 (j := 13) rfl) rfl) (plainFor_of_name (x := jxnm 277) jxcy12) jxcx12 rfl (jxat_mk (jxpc8 (j := 165) rfl) rfl) (jxat_mk (jxpc0 (j := 90) rfl) rfl) jxds13 (Or.inr ⟨rfl, rfl⟩) rfl
set_option maxRecDepth 100000 in
theorem jxchkM_278 : jxchkM 278 = true := jxM_1 rfl rfl (C := "CardClubModel") rfl (jxat_mk (jxpc8 (j := 158) rfl) rfl) (jxat_mk (jxpc1 (j := 13) rfl) rfl) (plainFor_of_name (x := jxnm 278) jxcy12) jxcx12 rfl (jxat_mk (jxpc8 (j := 156) rfl) rfl) (jxat_mk (jxpc8 (j := 157) rfl) rfl) jxds13 (Or.inr ⟨rfl, rfl⟩) rfl
set_option maxRecDepth 100000 in
theorem jxchkM_279 : jxchkM 279 = true := jxM_1 rfl rfl (C := "CardClubModel") rfl (jxat_mk (jxpc8 (j := 174) rfl) rfl) (jxat_mk (jxpc1 (j := 13) rfl) rfl) (plainFor_of_name (x := jxnm 279) jxcy12) jxcx12 rfl (jxat_mk (jxpc8 (j := 172) rfl) rfl) (jxat_mk (jxpc8 (j := 173) rfl) rfl) jxds7 (Or.inr ⟨rfl, rfl⟩) rfl
set_option maxRecDepth 100000 in
theorem jxchkM_280 : jxchkM 280 = true := jxM_1 rfl rfl (C := "CardClubModel") rfl (jxat_mk (jxpc8 (j := 178) rfl) rfl) (jxat_mk (jxpc1 (j := 13) rfl) rfl) (plainFor_of_name (x := jxnm 280) jxcy12) jxcx12 rfl (jxat_mk (jxpc8 (j := 176) rfl) rfl) (jxat_mk (jxpc8 (j := 177) rfl) rfl) jxds13 (Or.inr ⟨rfl, rfl⟩) rfl
set_option maxRecDepth 100000 in
theorem jxchkM_281 : jxchkM 281 = true := jxM_1 rfl rfl (C := "CardClubModel") rfl (jxat_mk (jxpc8 (j := 186) rfl) rfl) (jxat_mk (jxpc1 (j := 13) rfl) rfl) (plainFor_of_name (x := jxnm 281) jxcy12) jxcx12 rfl (jxat_mk (jxpc8 (j := 185) rfl) rfl) (jxat_mk (jxpc0 (j := 92) rfl) rfl) jxds11 (Or.inr ⟨rfl, rfl⟩) rfl
set_option maxRecDepth 100000 in
theorem jxchkM_282 : jxchkM 282 = true := jxM_1 rfl rfl (C := "CardClubModel") rfl (jxat_mk (jxpc8 (j := 182) rfl) rfl) (jxat_mk (jxpc1 (j := 13) rfl) rfl) (plainFor_of_name (x := jxnm 282) jxcy12) jxcx12 rfl (jxat_mk (jxpc8 (j := 180) rfl) rfl) (jxat_mk (jxpc8 (j := 181) rfl) rfl) jxds7 (Or.inr ⟨rfl, rfl⟩) rfl
set_option maxRecDepth 100000 in
theorem jxchkM_283 : jxchkM 283 = true := jxM_1 rfl rfl (C := "CardClubModel") rfl (jxat_mk (jxpc8 (j := 194) rfl) rfl) (jxat_mk (jxpc1 (j := 13) rfl) rfl) (plainFor_of_name (x := jxnm 283) jxcy12) jxcx12 rfl (jxat_mk (jxpc8 (j := 193) rfl) rfl) (jxat_mk (jxpc0 (j := 93) rfl) rfl) jxds21 (Or.inr ⟨rfl, rfl⟩) rfl
set_option maxRecDepth 100000 in
theorem jxchkM_284 : jxchkM 284 = true := jxM_1 rfl rfl (C := "CardClubModel") rfl (jxat_mk (jxpc8 (j := 190) rfl) rfl) (jxat_mk (jxpc1 (j := 13) rfl) rfl) (plainFor_of_name (x := jxnm 284) jxcy12) jxcx12 rfl (jxat_mk (jxpc8 (j := 188) rfl) rfl) (jxat_mk (jxpc8 (j := 189) rfl) rfl) jxds21 (Or.inr ⟨rfl, rfl⟩) rfl
set_option maxRecDepth 100000 in
theorem jxchkM_285 : jxchkM 285 = true := jxM_1 rfl rfl (C := "CardClubModel") rfl (jxat_mk (jxpc8 (j := 198) rfl) rfl) (jxat_mk (jxpc1 (j := 13) rfl) rfl) (plainFor_of_name (x := jxnm 285) jxcy12) jxcx12 rfl (jxat_mk (jxpc8 (j := 196) rfl) rfl) (jxat_mk (jxpc8 (j := 197) rfl) rfl) jxds20 (Or.inr ⟨rfl, rfl⟩) rfl
set_option maxRecDepth 100000 in
theorem jxchkM_286 : jxchkM 286 = true := jxM_1 rfl rfl (C := "CardClubModel") rfl (jxat_mk (jxpc8 (j := 206) rfl) rfl) (jxat_mk (jxpc1 (j := 13) rfl) rfl) (plainFor_of_name (x := jxnm 286) jxcy12) jxcx12 rfl (jxat_mk (jxpc8 (j := 205) rfl) rfl) (jxat_mk (jxpc0 (j := 94) rfl) rfl) jxds2 (Or.inr ⟨rfl, rfl⟩) rfl
set_option maxRecDepth 100000 in
theorem jxchkM_287 : jxchkM 287 = true := jxM_1 rfl rfl (C := "CardClubModel") rfl (jxat_mk (jxpc8 (j := 202) rfl) rfl) (jxat_mk (jxpc1 (j := 13) rfl) rfl) (plainFor_of_name (x := jxnm 287) jxcy12) jxcx12 rfl (jxat_mk (jxpc8 (j := 200) rfl) rfl) (jxat_mk (jxpc8 (j := 201) rfl) rfl) jxds13 (Or.inr ⟨rfl, rfl⟩) rfl
set_option maxRecDepth 100000 in
theorem jxchkM_288 : jxchkM 288 = true := jxM_1 rfl rfl (C := "CardClubModel") rfl (jxat_mk (jxpc8 (j := 210) rfl) rfl) (jxat_mk (jxpc1 (j := 13) rfl) rfl) (plainFor_of_name (x := jxnm 288) jxcy12) jxcx12 rfl (jxat_mk (jxpc8 (j := 208) rfl) rfl) (jxat_mk (jxpc8 (j := 209) rfl) rfl) jxds7 (Or.inr ⟨rfl, rfl⟩) rfl
set_option maxRecDepth 100000 in
theorem jxchkM_289 : jxchkM 289 = true := jxM_1 rfl rfl (C := "CardClubModel") rfl (jxat_mk (jxpc8 (j := 214) rfl) rfl) (jxat_mk (jxpc1 (j := 13) rfl) rfl) (plainFor_of_name (x := jxnm 289) jxcy12) jxcx12 rfl (jxat_mk (jxpc8 (j := 212) rfl) rfl) (jxat_mk (jxpc8 (j := 213) rfl) rfl) jxds7 (Or.inr ⟨rfl, rfl⟩) rfl
set_option maxRecDepth 100000 in
theorem jxchkM_290 : jxchkM 290 = true := jxM_0 rfl rfl (C := "java/lang/Integer") rfl (jxat_mk (jxpc5 (j := 140) rfl) rfl) (jxat_mk (jxpc1 (j := 19) rfl) rfl) (plainFor_of_name (x := jxnm 290) jxcy13) jxcx13 rfl (jxat_mk (jxpc5 (j := 139) rfl) rfl) jxds6 rfl
set_option maxRecDepth 100000 in
theorem jxchkM_291 : jxchkM 291 = true := jxM_0 rfl rfl (C := "java/lang/Math") rfl (jxat_mk (jxpc4 (j := 170) rfl) rfl) (jxat_mk (jxpc1 (j := 18) rfl) rfl) (Jvm.Free.JP.mathPlain rfl (by decide +kernel)) jxcx14 rfl (jxat_mk (jxpc4 (j := 169) rfl) rfl) jxds12 rfl
set_option maxRecDepth 100000 in
theorem jxchkM_292 : jxchkM 292 = true := jxM_0 rfl rfl (C := "java/lang/Math") rfl (jxat_mk (jxpc4 (j := 167) rfl) rfl) (jxat_mk (jxpc1 (j := 18) rfl) rfl) (Jvm.Free.JP.mathPlain rfl (by decide +kernel)) jxcx14 rfl (jxat_mk (jxpc4 (j := 166) rfl) rfl) jxds12 rfl
set_option maxRecDepth 100000 in
theorem jxchkM_293 : jxchkM 293 = true := jxM_0 rfl rfl (C := "java/lang/Math") rfl (jxat_mk (jxpc6 (j := 65) rfl) rfl) (jxat_mk (jxpc1 (j := 18) rfl) rfl) (Jvm.Free.JP.mathPlain rfl (by decide +kernel)) jxcx14 rfl (jxat_mk (jxpc6 (j := 64) rfl) rfl) jxds31 rfl
set_option maxRecDepth 100000 in
theorem jxchkM_294 : jxchkM 294 = true := jxM_1 rfl rfl (C := "java/lang/String") rfl (jxat_mk (jxpc3 (j := 110) rfl) rfl) (jxat_mk (jxpc1 (j := 14) rfl) rfl) (plainFor_of_name (x := jxnm 294) jxcy15) jxcx15 rfl (jxat_mk (jxpc3 (j := 108) rfl) rfl) (jxat_mk (jxpc3 (j := 109) rfl) rfl) jxds1 (Or.inl ⟨rfl, rfl⟩) rfl
set_option maxRecDepth 100000 in
theorem jxchkM_295 : jxchkM 295 = true := jxM_1 rfl rfl (C := "java/lang/String") rfl (jxat_mk (jxpc3 (j := 124) rfl) rfl) (jxat_mk (jxpc1 (j := 14) rfl) rfl) (plainFor_of_name (x := jxnm 295) jxcy15) jxcx15 rfl (jxat_mk (jxpc3 (j := 122) rfl) rfl) (jxat_mk (jxpc3 (j := 123) rfl) rfl) jxds5 (Or.inl ⟨rfl, rfl⟩) rfl
set_option maxRecDepth 100000 in
theorem jxchkM_296 : jxchkM 296 = true := jxM_1 rfl rfl (C := "java/lang/String") rfl (jxat_mk (jxpc3 (j := 114) rfl) rfl) (jxat_mk (jxpc1 (j := 14) rfl) rfl) (plainFor_of_name (x := jxnm 296) jxcy15) jxcx15 rfl (jxat_mk (jxpc3 (j := 112) rfl) rfl) (jxat_mk (jxpc3 (j := 113) rfl) rfl) jxds0 (Or.inl ⟨rfl, rfl⟩) rfl
set_option maxRecDepth 100000 in
theorem jxchkM_297 : jxchkM 297 = true := jxM_1 rfl rfl (C := "java/lang/String") rfl (jxat_mk (jxpc3 (j := 128) rfl) rfl) (jxat_mk (jxpc1 (j := 14) rfl) rfl) (plainFor_of_name (x := jxnm 297) jxcy15) jxcx15 rfl (jxat_mk (jxpc3 (j := 126) rfl) rfl) (jxat_mk (jxpc3 (j := 127) rfl) rfl) jxds3 (Or.inl ⟨rfl, rfl⟩) rfl
set_option maxRecDepth 100000 in
theorem jxchkM_298 : jxchkM 298 = true := jxM_0 rfl rfl (C := "java/lang/String") rfl (jxat_mk (jxpc3 (j := 134) rfl) rfl) (jxat_mk (jxpc1 (j := 14) rfl) rfl) (plainFor_of_name (x := jxnm 298) jxcy15) jxcx15 rfl (jxat_mk (jxpc3 (j := 133) rfl) rfl) jxds14 rfl
set_option maxRecDepth 100000 in
theorem jxchkM_299 : jxchkM 299 = true := jxM_0 rfl rfl (C := "java/lang/StringLatin1") rfl (jxat_mk (jxpc3 (j := 131) rfl) rfl) (jxat_mk (jxpc1 (j := 15) rfl) rfl) (plainFor_of_name (x := jxnm 299) jxcy16) jxcx16 rfl (jxat_mk (jxpc3 (j := 130) rfl) rfl) jxds42 rfl
set_option maxRecDepth 100000 in
theorem jxchkM_300 : jxchkM 300 = true := jxM_0 rfl rfl (C := "java/lang/StringUTF16") rfl (jxat_mk (jxpc3 (j := 152) rfl) rfl) (jxat_mk (jxpc1 (j := 17) rfl) rfl) (plainFor_of_name (x := jxnm 300) jxcy17) jxcx17 rfl (jxat_mk (jxpc3 (j := 151) rfl) rfl) jxds42 rfl
set_option maxRecDepth 100000 in
theorem jxchkM_301 : jxchkM 301 = true := jxM_0 rfl rfl (C := "java/lang/StringUTF16") rfl (jxat_mk (jxpc3 (j := 148) rfl) rfl) (jxat_mk (jxpc1 (j := 17) rfl) rfl) (plainFor_of_name (x := jxnm 301) jxcy17) jxcx17 rfl (jxat_mk (jxpc3 (j := 147) rfl) rfl) jxds41 rfl
set_option maxRecDepth 100000 in
theorem jxchkM_302 : jxchkM 302 = true := jxM_0 rfl rfl (C := "java/lang/StringUTF16") rfl (jxat_mk (jxpc3 (j := 142) rfl) rfl) (jxat_mk (jxpc1 (j := 17) rfl) rfl) (plainFor_of_name (x := jxnm 302) jxcy17) jxcx17 rfl (jxat_mk (jxpc3 (j := 141) rfl) rfl) jxds42 rfl
set_option maxRecDepth 100000 in
theorem jxchkM_303 : jxchkM 303 = true := jxM_0 rfl rfl (C := "java/lang/StringUTF16") rfl (jxat_mk (jxpc3 (j := 145) rfl) rfl) (jxat_mk (jxpc1 (j := 17) rfl) rfl) (plainFor_of_name (x := jxnm 303) jxcy17) jxcx17 rfl (jxat_mk (jxpc3 (j := 144) rfl) rfl) jxds29 rfl
set_option maxRecDepth 100000 in
theorem jxchkM_304 : jxchkM 304 = true := jxM_0 rfl rfl (C := "jdk/internal/util/Preconditions") rfl (jxat_mk (jxpc3 (j := 139) rfl) rfl) (jxat_mk (jxpc1 (j := 16) rfl) rfl) (plainFor_of_name (x := jxnm 304) jxcy18) jxcx18 rfl (jxat_mk (jxpc3 (j := 138) rfl) rfl) jxds27 rfl
theorem jxchkMA34 : ∀ y, y < 34 → jxchkM y = true := lt_s (lt_s (lt_s (lt_s (lt_s (lt_s (lt_s (lt_s (lt_s (lt_s (lt_s (lt_s (lt_s (lt_s (lt_s (lt_s (lt_s (lt_s (lt_s (lt_s (lt_s (lt_s (lt_s (lt_s (lt_s (lt_s (lt_s (lt_s (lt_s (lt_s (lt_s (lt_s (lt_s (lt_s (lt_0) jxchkM_0) jxchkM_1) jxchkM_2) jxchkM_3) jxchkM_4) jxchkM_5) jxchkM_6) jxchkM_7) jxchkM_8) jxchkM_9) jxchkM_10) jxchkM_11) jxchkM_12) jxchkM_13) jxchkM_14) jxchkM_15) jxchkM_16) jxchkM_17) jxchkM_18) jxchkM_19) jxchkM_20) jxchkM_21) jxchkM_22) jxchkM_23) jxchkM_24) jxchkM_25) jxchkM_26) jxchkM_27) jxchkM_28) jxchkM_29) jxchkM_30) jxchkM_31) jxchkM_32) jxchkM_33
theorem jxchkMA68 : ∀ y, y < 68 → jxchkM y = true := lt_s (lt_s (lt_s (lt_s (lt_s (lt_s (lt_s (lt_s (lt_s (lt_s (lt_s (lt_s (lt_s (lt_s (lt_s (lt_s (lt_s (lt_s (lt_s (lt_s (lt_s (lt_s (lt_s (lt_s (lt_s (lt_s (lt_s (lt_s (lt_s (lt_s (lt_s (lt_s (lt_s (lt_s (jxchkMA34) jxchkM_34) jxchkM_35) jxchkM_36) jxchkM_37) jxchkM_38) jxchkM_39) jxchkM_40) jxchkM_41) jxchkM_42) jxchkM_43) jxchkM_44) jxchkM_45) jxchkM_46) jxchkM_47) jxchkM_48) jxchkM_49) jxchkM_50) jxchkM_51) jxchkM_52) jxchkM_53) jxchkM_54) jxchkM_55) jxchkM_56) jxchkM_57) jxchkM_58) jxchkM_59) jxchkM_60) jxchkM_61) jxchkM_62) jxchkM_63) jxchkM_64) jxchkM_65) jxchkM_66) jxchkM_67
theorem jxchkMA102 : ∀ y, y < 102 → jxchkM y = true := lt_s (lt_s (lt_s (lt_s (lt_s (lt_s (lt_s (lt_s (lt_s (lt_s (lt_s (lt_s (lt_s (lt_s (lt_s (lt_s (lt_s (lt_s (lt_s (lt_s (lt_s (lt_s (lt_s (lt_s (lt_s (lt_s (lt_s (lt_s (lt_s (lt_s (lt_s (lt_s (lt_s (lt_s (jxchkMA68) jxchkM_68) jxchkM_69) jxchkM_70) jxchkM_71) jxchkM_72) jxchkM_73) jxchkM_74) jxchkM_75) jxchkM_76) jxchkM_77) jxchkM_78) jxchkM_79) jxchkM_80) jxchkM_81) jxchkM_82) jxchkM_83) jxchkM_84) jxchkM_85) jxchkM_86) jxchkM_87) jxchkM_88) jxchkM_89) jxchkM_90) jxchkM_91) jxchkM_92) jxchkM_93) jxchkM_94) jxchkM_95) jxchkM_96) jxchkM_97) jxchkM_98) jxchkM_99) jxchkM_100) jxchkM_101
theorem jxchkMA136 : ∀ y, y < 136 → jxchkM y = true := lt_s (lt_s (lt_s (lt_s (lt_s (lt_s (lt_s (lt_s (lt_s (lt_s (lt_s (lt_s (lt_s (lt_s (lt_s (lt_s (lt_s (lt_s (lt_s (lt_s (lt_s (lt_s (lt_s (lt_s (lt_s (lt_s (lt_s (lt_s (lt_s (lt_s (lt_s (lt_s (lt_s (lt_s (jxchkMA102) jxchkM_102) jxchkM_103) jxchkM_104) jxchkM_105) jxchkM_106) jxchkM_107) jxchkM_108) jxchkM_109) jxchkM_110) jxchkM_111) jxchkM_112) jxchkM_113) jxchkM_114) jxchkM_115) jxchkM_116) jxchkM_117) jxchkM_118) jxchkM_119) jxchkM_120) jxchkM_121) jxchkM_122) jxchkM_123) jxchkM_124) jxchkM_125) jxchkM_126) jxchkM_127) jxchkM_128) jxchkM_129) jxchkM_130) jxchkM_131) jxchkM_132) jxchkM_133) jxchkM_134) jxchkM_135
theorem jxchkMA170 : ∀ y, y < 170 → jxchkM y = true := lt_s (lt_s (lt_s (lt_s (lt_s (lt_s (lt_s (lt_s (lt_s (lt_s (lt_s (lt_s (lt_s (lt_s (lt_s (lt_s (lt_s (lt_s (lt_s (lt_s (lt_s (lt_s (lt_s (lt_s (lt_s (lt_s (lt_s (lt_s (lt_s (lt_s (lt_s (lt_s (lt_s (lt_s (jxchkMA136) jxchkM_136) jxchkM_137) jxchkM_138) jxchkM_139) jxchkM_140) jxchkM_141) jxchkM_142) jxchkM_143) jxchkM_144) jxchkM_145) jxchkM_146) jxchkM_147) jxchkM_148) jxchkM_149) jxchkM_150) jxchkM_151) jxchkM_152) jxchkM_153) jxchkM_154) jxchkM_155) jxchkM_156) jxchkM_157) jxchkM_158) jxchkM_159) jxchkM_160) jxchkM_161) jxchkM_162) jxchkM_163) jxchkM_164) jxchkM_165) jxchkM_166) jxchkM_167) jxchkM_168) jxchkM_169
theorem jxchkMA204 : ∀ y, y < 204 → jxchkM y = true := lt_s (lt_s (lt_s (lt_s (lt_s (lt_s (lt_s (lt_s (lt_s (lt_s (lt_s (lt_s (lt_s (lt_s (lt_s (lt_s (lt_s (lt_s (lt_s (lt_s (lt_s (lt_s (lt_s (lt_s (lt_s (lt_s (lt_s (lt_s (lt_s (lt_s (lt_s (lt_s (lt_s (lt_s (jxchkMA170) jxchkM_170) jxchkM_171) jxchkM_172) jxchkM_173) jxchkM_174) jxchkM_175) jxchkM_176) jxchkM_177) jxchkM_178) jxchkM_179) jxchkM_180) jxchkM_181) jxchkM_182) jxchkM_183) jxchkM_184) jxchkM_185) jxchkM_186) jxchkM_187) jxchkM_188) jxchkM_189) jxchkM_190) jxchkM_191) jxchkM_192) jxchkM_193) jxchkM_194) jxchkM_195) jxchkM_196) jxchkM_197) jxchkM_198) jxchkM_199) jxchkM_200) jxchkM_201) jxchkM_202) jxchkM_203
theorem jxchkMA238 : ∀ y, y < 238 → jxchkM y = true := lt_s (lt_s (lt_s (lt_s (lt_s (lt_s (lt_s (lt_s (lt_s (lt_s (lt_s (lt_s (lt_s (lt_s (lt_s (lt_s (lt_s (lt_s (lt_s (lt_s (lt_s (lt_s (lt_s (lt_s (lt_s (lt_s (lt_s (lt_s (lt_s (lt_s (lt_s (lt_s (lt_s (lt_s (jxchkMA204) jxchkM_204) jxchkM_205) jxchkM_206) jxchkM_207) jxchkM_208) jxchkM_209) jxchkM_210) jxchkM_211) jxchkM_212) jxchkM_213) jxchkM_214) jxchkM_215) jxchkM_216) jxchkM_217) jxchkM_218) jxchkM_219) jxchkM_220) jxchkM_221) jxchkM_222) jxchkM_223) jxchkM_224) jxchkM_225) jxchkM_226) jxchkM_227) jxchkM_228) jxchkM_229) jxchkM_230) jxchkM_231) jxchkM_232) jxchkM_233) jxchkM_234) jxchkM_235) jxchkM_236) jxchkM_237
theorem jxchkMA272 : ∀ y, y < 272 → jxchkM y = true := lt_s (lt_s (lt_s (lt_s (lt_s (lt_s (lt_s (lt_s (lt_s (lt_s (lt_s (lt_s (lt_s (lt_s (lt_s (lt_s (lt_s (lt_s (lt_s (lt_s (lt_s (lt_s (lt_s (lt_s (lt_s (lt_s (lt_s (lt_s (lt_s (lt_s (lt_s (lt_s (lt_s (lt_s (jxchkMA238) jxchkM_238) jxchkM_239) jxchkM_240) jxchkM_241) jxchkM_242) jxchkM_243) jxchkM_244) jxchkM_245) jxchkM_246) jxchkM_247) jxchkM_248) jxchkM_249) jxchkM_250) jxchkM_251) jxchkM_252) jxchkM_253) jxchkM_254) jxchkM_255) jxchkM_256) jxchkM_257) jxchkM_258) jxchkM_259) jxchkM_260) jxchkM_261) jxchkM_262) jxchkM_263) jxchkM_264) jxchkM_265) jxchkM_266) jxchkM_267) jxchkM_268) jxchkM_269) jxchkM_270) jxchkM_271
theorem jxchkMA305 : ∀ y, y < 305 → jxchkM y = true := lt_s (lt_s (lt_s (lt_s (lt_s (lt_s (lt_s (lt_s (lt_s (lt_s (lt_s (lt_s (lt_s (lt_s (lt_s (lt_s (lt_s (lt_s (lt_s (lt_s (lt_s (lt_s (lt_s (lt_s (lt_s (lt_s (lt_s (lt_s (lt_s (lt_s (lt_s (lt_s (lt_s (jxchkMA272) jxchkM_272) jxchkM_273) jxchkM_274) jxchkM_275) jxchkM_276) jxchkM_277) jxchkM_278) jxchkM_279) jxchkM_280) jxchkM_281) jxchkM_282) jxchkM_283) jxchkM_284) jxchkM_285) jxchkM_286) jxchkM_287) jxchkM_288) jxchkM_289) jxchkM_290) jxchkM_291) jxchkM_292) jxchkM_293) jxchkM_294) jxchkM_295) jxchkM_296) jxchkM_297) jxchkM_298) jxchkM_299) jxchkM_300) jxchkM_301) jxchkM_302) jxchkM_303) jxchkM_304
theorem jxchkM_ok {z : Nat} (hz : z < 306) (hl : z ≠ 305) : jxchkM z = true := jxchkMA305 z (by omega)
def jxchkL (own idx z : Nat) : Bool := match jxfind2 jxpL own idx with
  | none => false
  | some i => bif Nat.beq z 9999 then jxat i (.methodLink (jxcn own) idx Lib.objectInit) else Nat.ble (z + 1) 306 && !(Nat.beq z 305) && (jxat i (.methodLink (jxcn own) idx (jxnm z)) || jxatn i (.methodLinkNest (jxcn own) idx (jxnm z) "CardClub"))
theorem jxL_o {own idx i : Nat} (h1 : jxfind2 jxpL own idx = some i) (hw : jxat i (.methodLink (jxcn own) idx Lib.objectInit) = true) : jxchkL own idx 9999 = true := by
  unfold jxchkL
  rw [h1]
  exact hw
theorem jxL_m {own idx i z : Nat} (h1 : jxfind2 jxpL own idx = some i) (h9 : Nat.beq z 9999 = false) (hz : Nat.ble (z + 1) 306 = true) (hl : Nat.beq z 305 = false) (hw : jxat i (.methodLink (jxcn own) idx (jxnm z)) = true) : jxchkL own idx z = true := by
  unfold jxchkL
  rw [h1]
  simp only [h9, cond_false, hz, hl, hw, Bool.not_false, Bool.true_or, Bool.and_self]
theorem jxL_n {own idx i z : Nat} (h1 : jxfind2 jxpL own idx = some i) (h9 : Nat.beq z 9999 = false) (hz : Nat.ble (z + 1) 306 = true) (hl : Nat.beq z 305 = false) (hw : jxatn i (.methodLinkNest (jxcn own) idx (jxnm z) "CardClub") = true) : jxchkL own idx z = true := by
  unfold jxchkL
  rw [h1]
  simp only [h9, cond_false, hz, hl, hw, Bool.not_false, Bool.or_true, Bool.and_self]
set_option maxRecDepth 100000 in
theorem jxchkL_ok_0 : jxrowP (jxchkL 0) (jxlk.getD 0 []) := jxR_c (jxL_o rfl (jxat_mk (jxpc1 (j := 133) rfl) rfl))
    (jxR_c (jxL_n rfl rfl rfl rfl (jxatn_mk (jxpc2 (j := 220) rfl) rfl))
    (jxR_c (jxL_m rfl rfl rfl rfl (jxat_mk (jxpc2 (j := 235) rfl) rfl))
    (jxR_c (jxL_n rfl rfl rfl rfl (jxatn_mk (jxpc4 (j := 237) rfl) rfl))
    (jxR_c (jxL_m rfl rfl rfl rfl (jxat_mk (jxpc4 (j := 238) rfl) rfl))
    (jxR_c (jxL_m rfl rfl rfl rfl (jxat_mk (jxpc2 (j := 227) rfl) rfl))
    (jxR_c (jxL_m rfl rfl rfl rfl (jxat_mk (jxpc2 (j := 231) rfl) rfl))
    (jxR_c (jxL_m rfl rfl rfl rfl (jxat_mk (jxpc4 (j := 94) rfl) rfl))
    (jxR_c (jxL_m rfl rfl rfl rfl (jxat_mk (jxpc5 (j := 53) rfl) rfl))
    (jxR_c (jxL_m rfl rfl rfl rfl (jxat_mk (jxpc4 (j := 160) rfl) rfl))
    (jxR_c (jxL_m rfl rfl rfl rfl (jxat_mk (jxpc4 (j := 156) rfl) rfl))
    (jxR_c (jxL_m rfl rfl rfl rfl (jxat_mk (jxpc4 (j := 165) rfl) rfl))
    (jxR_c (jxL_m rfl rfl rfl rfl (jxat_mk (jxpc4 (j := 161) rfl) rfl))
    (jxR_c (jxL_m rfl rfl rfl rfl (jxat_mk (jxpc4 (j := 168) rfl) rfl))
    (jxR_n))))))))))))))
set_option maxRecDepth 100000 in
theorem jxchkL_ok_1 : jxrowP (jxchkL 1) (jxlk.getD 1 []) := jxR_c (jxL_o rfl (jxat_mk (jxpc2 (j := 100) rfl) rfl))
    (jxR_c (jxL_n rfl rfl rfl rfl (jxatn_mk (jxpc6 (j := 31) rfl) rfl))
    (jxR_c (jxL_n rfl rfl rfl rfl (jxatn_mk (jxpc6 (j := 78) rfl) rfl))
    (jxR_c (jxL_m rfl rfl rfl rfl (jxat_mk (jxpc6 (j := 40) rfl) rfl))
    (jxR_c (jxL_m rfl rfl rfl rfl (jxat_mk (jxpc6 (j := 45) rfl) rfl))
    (jxR_c (jxL_m rfl rfl rfl rfl (jxat_mk (jxpc6 (j := 46) rfl) rfl))
    (jxR_c (jxL_m rfl rfl rfl rfl (jxat_mk (jxpc6 (j := 44) rfl) rfl))
    (jxR_c (jxL_m rfl rfl rfl rfl (jxat_mk (jxpc6 (j := 66) rfl) rfl))
    (jxR_c (jxL_m rfl rfl rfl rfl (jxat_mk (jxpc6 (j := 51) rfl) rfl))
    (jxR_c (jxL_m rfl rfl rfl rfl (jxat_mk (jxpc6 (j := 55) rfl) rfl))
    (jxR_c (jxL_m rfl rfl rfl rfl (jxat_mk (jxpc6 (j := 60) rfl) rfl))
    (jxR_c (jxL_m rfl rfl rfl rfl (jxat_mk (jxpc6 (j := 63) rfl) rfl))
    (jxR_n))))))))))))
set_option maxRecDepth 100000 in
theorem jxchkL_ok_2 : jxrowP (jxchkL 2) (jxlk.getD 2 []) := jxR_c (jxL_o rfl (jxat_mk (jxpc1 (j := 213) rfl) rfl))
    (jxR_c (jxL_m rfl rfl rfl rfl (jxat_mk (jxpc4 (j := 195) rfl) rfl))
    (jxR_c (jxL_m rfl rfl rfl rfl (jxat_mk (jxpc4 (j := 196) rfl) rfl))
    (jxR_c (jxL_m rfl rfl rfl rfl (jxat_mk (jxpc4 (j := 199) rfl) rfl))
    (jxR_c (jxL_m rfl rfl rfl rfl (jxat_mk (jxpc4 (j := 202) rfl) rfl))
    (jxR_c (jxL_n rfl rfl rfl rfl (jxatn_mk (jxpc4 (j := 210) rfl) rfl))
    (jxR_c (jxL_m rfl rfl rfl rfl (jxat_mk (jxpc4 (j := 217) rfl) rfl))
    (jxR_n)))))))
set_option maxRecDepth 100000 in
theorem jxchkL_ok_3 : jxrowP (jxchkL 3) (jxlk.getD 3 []) := jxR_c (jxL_o rfl (jxat_mk (jxpc1 (j := 53) rfl) rfl))
    (jxR_c (jxL_m rfl rfl rfl rfl (jxat_mk (jxpc2 (j := 200) rfl) rfl))
    (jxR_c (jxL_m rfl rfl rfl rfl (jxat_mk (jxpc6 (j := 87) rfl) rfl))
    (jxR_c (jxL_n rfl rfl rfl rfl (jxatn_mk (jxpc3 (j := 228) rfl) rfl))
    (jxR_n))))
set_option maxRecDepth 100000 in
theorem jxchkL_ok_4 : jxrowP (jxchkL 4) (jxlk.getD 4 []) := jxR_c (jxL_o rfl (jxat_mk (jxpc1 (j := 236) rfl) rfl))
    (jxR_c (jxL_m rfl rfl rfl rfl (jxat_mk (jxpc3 (j := 28) rfl) rfl))
    (jxR_c (jxL_m rfl rfl rfl rfl (jxat_mk (jxpc5 (j := 200) rfl) rfl))
    (jxR_c (jxL_n rfl rfl rfl rfl (jxatn_mk (jxpc3 (j := 19) rfl) rfl))
    (jxR_n))))
set_option maxRecDepth 100000 in
theorem jxchkL_ok_5 : jxrowP (jxchkL 5) (jxlk.getD 5 []) := jxR_c (jxL_o rfl (jxat_mk (jxpc2 (j := 27) rfl) rfl))
    (jxR_c (jxL_m rfl rfl rfl rfl (jxat_mk (jxpc5 (j := 175) rfl) rfl))
    (jxR_c (jxL_m rfl rfl rfl rfl (jxat_mk (jxpc5 (j := 95) rfl) rfl))
    (jxR_c (jxL_m rfl rfl rfl rfl (jxat_mk (jxpc5 (j := 101) rfl) rfl))
    (jxR_c (jxL_m rfl rfl rfl rfl (jxat_mk (jxpc5 (j := 115) rfl) rfl))
    (jxR_c (jxL_m rfl rfl rfl rfl (jxat_mk (jxpc5 (j := 130) rfl) rfl))
    (jxR_c (jxL_m rfl rfl rfl rfl (jxat_mk (jxpc5 (j := 155) rfl) rfl))
    (jxR_c (jxL_m rfl rfl rfl rfl (jxat_mk (jxpc5 (j := 99) rfl) rfl))
    (jxR_c (jxL_m rfl rfl rfl rfl (jxat_mk (jxpc5 (j := 100) rfl) rfl))
    (jxR_c (jxL_m rfl rfl rfl rfl (jxat_mk (jxpc5 (j := 105) rfl) rfl))
    (jxR_c (jxL_m rfl rfl rfl rfl (jxat_mk (jxpc5 (j := 106) rfl) rfl))
    (jxR_c (jxL_m rfl rfl rfl rfl (jxat_mk (jxpc5 (j := 107) rfl) rfl))
    (jxR_c (jxL_m rfl rfl rfl rfl (jxat_mk (jxpc5 (j := 111) rfl) rfl))
    (jxR_c (jxL_m rfl rfl rfl rfl (jxat_mk (jxpc5 (j := 119) rfl) rfl))
    (jxR_c (jxL_m rfl rfl rfl rfl (jxat_mk (jxpc5 (j := 123) rfl) rfl))
    (jxR_c (jxL_m rfl rfl rfl rfl (jxat_mk (jxpc5 (j := 127) rfl) rfl))
    (jxR_c (jxL_m rfl rfl rfl rfl (jxat_mk (jxpc5 (j := 134) rfl) rfl))
    (jxR_c (jxL_m rfl rfl rfl rfl (jxat_mk (jxpc5 (j := 138) rfl) rfl))
    (jxR_c (jxL_m rfl rfl rfl rfl (jxat_mk (jxpc5 (j := 144) rfl) rfl))
    (jxR_c (jxL_m rfl rfl rfl rfl (jxat_mk (jxpc5 (j := 147) rfl) rfl))
    (jxR_c (jxL_m rfl rfl rfl rfl (jxat_mk (jxpc5 (j := 151) rfl) rfl))
    (jxR_c (jxL_m rfl rfl rfl rfl (jxat_mk (jxpc5 (j := 154) rfl) rfl))
    (jxR_c (jxL_m rfl rfl rfl rfl (jxat_mk (jxpc5 (j := 159) rfl) rfl))
    (jxR_c (jxL_m rfl rfl rfl rfl (jxat_mk (jxpc5 (j := 163) rfl) rfl))
    (jxR_n))))))))))))))))))))))))
set_option maxRecDepth 100000 in
theorem jxchkL_ok_6 : jxrowP (jxchkL 6) (jxlk.getD 6 []) := jxR_c (jxL_o rfl (jxat_mk (jxpc1 (j := 115) rfl) rfl))
    (jxR_c (jxL_m rfl rfl rfl rfl (jxat_mk (jxpc4 (j := 10) rfl) rfl))
    (jxR_c (jxL_m rfl rfl rfl rfl (jxat_mk (jxpc4 (j := 11) rfl) rfl))
    (jxR_c (jxL_m rfl rfl rfl rfl (jxat_mk (jxpc4 (j := 12) rfl) rfl))
    (jxR_c (jxL_m rfl rfl rfl rfl (jxat_mk (jxpc4 (j := 38) rfl) rfl))
    (jxR_c (jxL_m rfl rfl rfl rfl (jxat_mk (jxpc4 (j := 39) rfl) rfl))
    (jxR_c (jxL_m rfl rfl rfl rfl (jxat_mk (jxpc4 (j := 16) rfl) rfl))
    (jxR_c (jxL_m rfl rfl rfl rfl (jxat_mk (jxpc4 (j := 37) rfl) rfl))
    (jxR_c (jxL_m rfl rfl rfl rfl (jxat_mk (jxpc4 (j := 30) rfl) rfl))
    (jxR_c (jxL_m rfl rfl rfl rfl (jxat_mk (jxpc4 (j := 20) rfl) rfl))
    (jxR_c (jxL_m rfl rfl rfl rfl (jxat_mk (jxpc4 (j := 21) rfl) rfl))
    (jxR_c (jxL_m rfl rfl rfl rfl (jxat_mk (jxpc4 (j := 31) rfl) rfl))
    (jxR_c (jxL_m rfl rfl rfl rfl (jxat_mk (jxpc4 (j := 36) rfl) rfl))
    (jxR_c (jxL_m rfl rfl rfl rfl (jxat_mk (jxpc4 (j := 25) rfl) rfl))
    (jxR_n))))))))))))))
set_option maxRecDepth 100000 in
theorem jxchkL_ok_7 : jxrowP (jxchkL 7) (jxlk.getD 7 []) := jxR_c (jxL_o rfl (jxat_mk (jxpc1 (j := 188) rfl) rfl))
    (jxR_c (jxL_m rfl rfl rfl rfl (jxat_mk (jxpc4 (j := 52) rfl) rfl))
    (jxR_c (jxL_m rfl rfl rfl rfl (jxat_mk (jxpc4 (j := 53) rfl) rfl))
    (jxR_c (jxL_m rfl rfl rfl rfl (jxat_mk (jxpc4 (j := 54) rfl) rfl))
    (jxR_c (jxL_m rfl rfl rfl rfl (jxat_mk (jxpc4 (j := 55) rfl) rfl))
    (jxR_c (jxL_m rfl rfl rfl rfl (jxat_mk (jxpc4 (j := 56) rfl) rfl))
    (jxR_c (jxL_m rfl rfl rfl rfl (jxat_mk (jxpc4 (j := 60) rfl) rfl))
    (jxR_c (jxL_n rfl rfl rfl rfl (jxatn_mk (jxpc4 (j := 64) rfl) rfl))
    (jxR_c (jxL_n rfl rfl rfl rfl (jxatn_mk (jxpc4 (j := 77) rfl) rfl))
    (jxR_n)))))))))
set_option maxRecDepth 100000 in
theorem jxchkL_ok_8 : jxrowP (jxchkL 8) (jxlk.getD 8 []) := jxR_c (jxL_o rfl (jxat_mk (jxpc1 (j := 33) rfl) rfl))
    (jxR_c (jxL_m rfl rfl rfl rfl (jxat_mk (jxpc3 (j := 78) rfl) rfl))
    (jxR_c (jxL_m rfl rfl rfl rfl (jxat_mk (jxpc3 (j := 175) rfl) rfl))
    (jxR_c (jxL_m rfl rfl rfl rfl (jxat_mk (jxpc3 (j := 107) rfl) rfl))
    (jxR_c (jxL_m rfl rfl rfl rfl (jxat_mk (jxpc3 (j := 117) rfl) rfl))
    (jxR_c (jxL_m rfl rfl rfl rfl (jxat_mk (jxpc3 (j := 121) rfl) rfl))
    (jxR_c (jxL_n rfl rfl rfl rfl (jxatn_mk (jxpc3 (j := 198) rfl) rfl))
    (jxR_n)))))))
set_option maxRecDepth 100000 in
theorem jxchkL_ok_9 : jxrowP (jxchkL 9) (jxlk.getD 9 []) := jxR_c (jxL_o rfl (jxat_mk (jxpc2 (j := 74) rfl) rfl))
    (jxR_c (jxL_m rfl rfl rfl rfl (jxat_mk (jxpc5 (j := 228) rfl) rfl))
    (jxR_c (jxL_m rfl rfl rfl rfl (jxat_mk (jxpc5 (j := 229) rfl) rfl))
    (jxR_c (jxL_m rfl rfl rfl rfl (jxat_mk (jxpc6 (j := 3) rfl) rfl))
    (jxR_c (jxL_m rfl rfl rfl rfl (jxat_mk (jxpc6 (j := 4) rfl) rfl))
    (jxR_c (jxL_m rfl rfl rfl rfl (jxat_mk (jxpc5 (j := 236) rfl) rfl))
    (jxR_c (jxL_m rfl rfl rfl rfl (jxat_mk (jxpc6 (j := 5) rfl) rfl))
    (jxR_c (jxL_m rfl rfl rfl rfl (jxat_mk (jxpc6 (j := 6) rfl) rfl))
    (jxR_c (jxL_m rfl rfl rfl rfl (jxat_mk (jxpc5 (j := 233) rfl) rfl))
    (jxR_c (jxL_m rfl rfl rfl rfl (jxat_mk (jxpc5 (j := 235) rfl) rfl))
    (jxR_c (jxL_m rfl rfl rfl rfl (jxat_mk (jxpc5 (j := 237) rfl) rfl))
    (jxR_c (jxL_m rfl rfl rfl rfl (jxat_mk (jxpc5 (j := 238) rfl) rfl))
    (jxR_c (jxL_m rfl rfl rfl rfl (jxat_mk (jxpc5 (j := 239) rfl) rfl))
    (jxR_c (jxL_m rfl rfl rfl rfl (jxat_mk (jxpc6 (j := 19) rfl) rfl))
    (jxR_n))))))))))))))
set_option maxRecDepth 100000 in
theorem jxchkL_ok_10 : jxrowP (jxchkL 10) (jxlk.getD 10 []) := jxR_c (jxL_o rfl (jxat_mk (jxpc1 (j := 82) rfl) rfl))
    (jxR_c (jxL_m rfl rfl rfl rfl (jxat_mk (jxpc3 (j := 74) rfl) rfl))
    (jxR_c (jxL_m rfl rfl rfl rfl (jxat_mk (jxpc3 (j := 82) rfl) rfl))
    (jxR_c (jxL_m rfl rfl rfl rfl (jxat_mk (jxpc3 (j := 86) rfl) rfl))
    (jxR_c (jxL_m rfl rfl rfl rfl (jxat_mk (jxpc3 (j := 171) rfl) rfl))
    (jxR_c (jxL_m rfl rfl rfl rfl (jxat_mk (jxpc3 (j := 201) rfl) rfl))
    (jxR_c (jxL_m rfl rfl rfl rfl (jxat_mk (jxpc3 (j := 202) rfl) rfl))
    (jxR_c (jxL_m rfl rfl rfl rfl (jxat_mk (jxpc3 (j := 206) rfl) rfl))
    (jxR_c (jxL_m rfl rfl rfl rfl (jxat_mk (jxpc3 (j := 210) rfl) rfl))
    (jxR_c (jxL_m rfl rfl rfl rfl (jxat_mk (jxpc3 (j := 90) rfl) rfl))
    (jxR_c (jxL_m rfl rfl rfl rfl (jxat_mk (jxpc3 (j := 103) rfl) rfl))
    (jxR_c (jxL_m rfl rfl rfl rfl (jxat_mk (jxpc3 (j := 167) rfl) rfl))
    (jxR_c (jxL_m rfl rfl rfl rfl (jxat_mk (jxpc3 (j := 94) rfl) rfl))
    (jxR_c (jxL_m rfl rfl rfl rfl (jxat_mk (jxpc3 (j := 98) rfl) rfl))
    (jxR_c (jxL_m rfl rfl rfl rfl (jxat_mk (jxpc3 (j := 159) rfl) rfl))
    (jxR_c (jxL_m rfl rfl rfl rfl (jxat_mk (jxpc3 (j := 163) rfl) rfl))
    (jxR_c (jxL_m rfl rfl rfl rfl (jxat_mk (jxpc3 (j := 176) rfl) rfl))
    (jxR_c (jxL_m rfl rfl rfl rfl (jxat_mk (jxpc3 (j := 180) rfl) rfl))
    (jxR_c (jxL_m rfl rfl rfl rfl (jxat_mk (jxpc3 (j := 191) rfl) rfl))
    (jxR_c (jxL_m rfl rfl rfl rfl (jxat_mk (jxpc3 (j := 194) rfl) rfl))
    (jxR_c (jxL_m rfl rfl rfl rfl (jxat_mk (jxpc3 (j := 220) rfl) rfl))
    (jxR_c (jxL_m rfl rfl rfl rfl (jxat_mk (jxpc3 (j := 224) rfl) rfl))
    (jxR_c (jxL_m rfl rfl rfl rfl (jxat_mk (jxpc3 (j := 229) rfl) rfl))
    (jxR_c (jxL_m rfl rfl rfl rfl (jxat_mk (jxpc3 (j := 233) rfl) rfl))
    (jxR_c (jxL_m rfl rfl rfl rfl (jxat_mk (jxpc3 (j := 238) rfl) rfl))
    (jxR_c (jxL_n rfl rfl rfl rfl (jxatn_mk (jxpc3 (j := 237) rfl) rfl))
    (jxR_n))))))))))))))))))))))))))
set_option maxRecDepth 100000 in
theorem jxchkL_ok_11 : jxrowP (jxchkL 11) (jxlk.getD 11 []) := jxR_c (jxL_o rfl (jxat_mk (jxpc1 (j := 25) rfl) rfl))
    (jxR_c (jxL_n rfl rfl rfl rfl (jxatn_mk (jxpc1 (j := 30) rfl) rfl))
    (jxR_c (jxL_n rfl rfl rfl rfl (jxatn_mk (jxpc1 (j := 50) rfl) rfl))
    (jxR_c (jxL_m rfl rfl rfl rfl (jxat_mk (jxpc1 (j := 79) rfl) rfl))
    (jxR_c (jxL_m rfl rfl rfl rfl (jxat_mk (jxpc1 (j := 112) rfl) rfl))
    (jxR_c (jxL_m rfl rfl rfl rfl (jxat_mk (jxpc1 (j := 130) rfl) rfl))
    (jxR_c (jxL_n rfl rfl rfl rfl (jxatn_mk (jxpc1 (j := 185) rfl) rfl))
    (jxR_c (jxL_n rfl rfl rfl rfl (jxatn_mk (jxpc1 (j := 210) rfl) rfl))
    (jxR_c (jxL_n rfl rfl rfl rfl (jxatn_mk (jxpc1 (j := 233) rfl) rfl))
    (jxR_c (jxL_m rfl rfl rfl rfl (jxat_mk (jxpc2 (j := 24) rfl) rfl))
    (jxR_c (jxL_n rfl rfl rfl rfl (jxatn_mk (jxpc2 (j := 71) rfl) rfl))
    (jxR_c (jxL_m rfl rfl rfl rfl (jxat_mk (jxpc2 (j := 97) rfl) rfl))
    (jxR_c (jxL_m rfl rfl rfl rfl (jxat_mk (jxpc2 (j := 170) rfl) rfl))
    (jxR_c (jxL_m rfl rfl rfl rfl (jxat_mk (jxpc2 (j := 180) rfl) rfl))
    (jxR_c (jxL_m rfl rfl rfl rfl (jxat_mk (jxpc2 (j := 173) rfl) rfl))
    (jxR_c (jxL_m rfl rfl rfl rfl (jxat_mk (jxpc2 (j := 188) rfl) rfl))
    (jxR_c (jxL_m rfl rfl rfl rfl (jxat_mk (jxpc2 (j := 196) rfl) rfl))
    (jxR_c (jxL_m rfl rfl rfl rfl (jxat_mk (jxpc2 (j := 204) rfl) rfl))
    (jxR_c (jxL_m rfl rfl rfl rfl (jxat_mk (jxpc2 (j := 208) rfl) rfl))
    (jxR_c (jxL_m rfl rfl rfl rfl (jxat_mk (jxpc3 (j := 11) rfl) rfl))
    (jxR_c (jxL_m rfl rfl rfl rfl (jxat_mk (jxpc3 (j := 15) rfl) rfl))
    (jxR_c (jxL_m rfl rfl rfl rfl (jxat_mk (jxpc3 (j := 20) rfl) rfl))
    (jxR_c (jxL_m rfl rfl rfl rfl (jxat_mk (jxpc2 (j := 212) rfl) rfl))
    (jxR_c (jxL_m rfl rfl rfl rfl (jxat_mk (jxpc2 (j := 216) rfl) rfl))
    (jxR_c (jxL_m rfl rfl rfl rfl (jxat_mk (jxpc2 (j := 223) rfl) rfl))
    (jxR_c (jxL_m rfl rfl rfl rfl (jxat_mk (jxpc2 (j := 239) rfl) rfl))
    (jxR_c (jxL_m rfl rfl rfl rfl (jxat_mk (jxpc3 (j := 3) rfl) rfl))
    (jxR_c (jxL_m rfl rfl rfl rfl (jxat_mk (jxpc3 (j := 7) rfl) rfl))
    (jxR_c (jxL_m rfl rfl rfl rfl (jxat_mk (jxpc3 (j := 24) rfl) rfl))
    (jxR_c (jxL_m rfl rfl rfl rfl (jxat_mk (jxpc3 (j := 32) rfl) rfl))
    (jxR_c (jxL_m rfl rfl rfl rfl (jxat_mk (jxpc3 (j := 36) rfl) rfl))
    (jxR_c (jxL_m rfl rfl rfl rfl (jxat_mk (jxpc3 (j := 40) rfl) rfl))
    (jxR_c (jxL_m rfl rfl rfl rfl (jxat_mk (jxpc3 (j := 45) rfl) rfl))
    (jxR_c (jxL_m rfl rfl rfl rfl (jxat_mk (jxpc3 (j := 49) rfl) rfl))
    (jxR_c (jxL_m rfl rfl rfl rfl (jxat_mk (jxpc3 (j := 53) rfl) rfl))
    (jxR_c (jxL_m rfl rfl rfl rfl (jxat_mk (jxpc3 (j := 61) rfl) rfl))
    (jxR_c (jxL_m rfl rfl rfl rfl (jxat_mk (jxpc3 (j := 69) rfl) rfl))
    (jxR_c (jxL_m rfl rfl rfl rfl (jxat_mk (jxpc3 (j := 70) rfl) rfl))
    (jxR_c (jxL_m rfl rfl rfl rfl (jxat_mk (jxpc3 (j := 216) rfl) rfl))
    (jxR_c (jxL_m rfl rfl rfl rfl (jxat_mk (jxpc4 (j := 6) rfl) rfl))
    (jxR_c (jxL_m rfl rfl rfl rfl (jxat_mk (jxpc4 (j := 44) rfl) rfl))
    (jxR_c (jxL_m rfl rfl rfl rfl (jxat_mk (jxpc4 (j := 48) rfl) rfl))
    (jxR_c (jxL_m rfl rfl rfl rfl (jxat_mk (jxpc4 (j := 65) rfl) rfl))
    (jxR_c (jxL_m rfl rfl rfl rfl (jxat_mk (jxpc4 (j := 86) rfl) rfl))
    (jxR_c (jxL_m rfl rfl rfl rfl (jxat_mk (jxpc4 (j := 143) rfl) rfl))
    (jxR_c (jxL_m rfl rfl rfl rfl (jxat_mk (jxpc4 (j := 90) rfl) rfl))
    (jxR_c (jxL_m rfl rfl rfl rfl (jxat_mk (jxpc4 (j := 102) rfl) rfl))
    (jxR_c (jxL_m rfl rfl rfl rfl (jxat_mk (jxpc4 (j := 187) rfl) rfl))
    (jxR_c (jxL_m rfl rfl rfl rfl (jxat_mk (jxpc4 (j := 191) rfl) rfl))
    (jxR_c (jxL_m rfl rfl rfl rfl (jxat_mk (jxpc4 (j := 98) rfl) rfl))
    (jxR_c (jxL_m rfl rfl rfl rfl (jxat_mk (jxpc4 (j := 127) rfl) rfl))
    (jxR_c (jxL_m rfl rfl rfl rfl (jxat_mk (jxpc4 (j := 107) rfl) rfl))
    (jxR_c (jxL_m rfl rfl rfl rfl (jxat_mk (jxpc4 (j := 206) rfl) rfl))
    (jxR_c (jxL_m rfl rfl rfl rfl (jxat_mk (jxpc4 (j := 213) rfl) rfl))
    (jxR_c (jxL_m rfl rfl rfl rfl (jxat_mk (jxpc4 (j := 221) rfl) rfl))
    (jxR_c (jxL_m rfl rfl rfl rfl (jxat_mk (jxpc4 (j := 225) rfl) rfl))
    (jxR_c (jxL_m rfl rfl rfl rfl (jxat_mk (jxpc4 (j := 73) rfl) rfl))
    (jxR_c (jxL_m rfl rfl rfl rfl (jxat_mk (jxpc4 (j := 111) rfl) rfl))
    (jxR_c (jxL_m rfl rfl rfl rfl (jxat_mk (jxpc4 (j := 115) rfl) rfl))
    (jxR_c (jxL_m rfl rfl rfl rfl (jxat_mk (jxpc4 (j := 119) rfl) rfl))
    (jxR_c (jxL_m rfl rfl rfl rfl (jxat_mk (jxpc4 (j := 69) rfl) rfl))
    (jxR_c (jxL_m rfl rfl rfl rfl (jxat_mk (jxpc4 (j := 78) rfl) rfl))
    (jxR_c (jxL_m rfl rfl rfl rfl (jxat_mk (jxpc4 (j := 82) rfl) rfl))
    (jxR_c (jxL_m rfl rfl rfl rfl (jxat_mk (jxpc4 (j := 106) rfl) rfl))
    (jxR_c (jxL_m rfl rfl rfl rfl (jxat_mk (jxpc4 (j := 123) rfl) rfl))
    (jxR_c (jxL_m rfl rfl rfl rfl (jxat_mk (jxpc4 (j := 131) rfl) rfl))
    (jxR_c (jxL_m rfl rfl rfl rfl (jxat_mk (jxpc4 (j := 135) rfl) rfl))
    (jxR_c (jxL_m rfl rfl rfl rfl (jxat_mk (jxpc4 (j := 139) rfl) rfl))
    (jxR_c (jxL_m rfl rfl rfl rfl (jxat_mk (jxpc4 (j := 147) rfl) rfl))
    (jxR_c (jxL_m rfl rfl rfl rfl (jxat_mk (jxpc4 (j := 148) rfl) rfl))
    (jxR_c (jxL_m rfl rfl rfl rfl (jxat_mk (jxpc4 (j := 152) rfl) rfl))
    (jxR_c (jxL_m rfl rfl rfl rfl (jxat_mk (jxpc4 (j := 171) rfl) rfl))
    (jxR_c (jxL_m rfl rfl rfl rfl (jxat_mk (jxpc4 (j := 233) rfl) rfl))
    (jxR_c (jxL_m rfl rfl rfl rfl (jxat_mk (jxpc5 (j := 6) rfl) rfl))
    (jxR_c (jxL_m rfl rfl rfl rfl (jxat_mk (jxpc5 (j := 14) rfl) rfl))
    (jxR_c (jxL_m rfl rfl rfl rfl (jxat_mk (jxpc5 (j := 15) rfl) rfl))
    (jxR_c (jxL_m rfl rfl rfl rfl (jxat_mk (jxpc5 (j := 19) rfl) rfl))
    (jxR_c (jxL_m rfl rfl rfl rfl (jxat_mk (jxpc5 (j := 20) rfl) rfl))
    (jxR_c (jxL_m rfl rfl rfl rfl (jxat_mk (jxpc5 (j := 24) rfl) rfl))
    (jxR_c (jxL_m rfl rfl rfl rfl (jxat_mk (jxpc5 (j := 32) rfl) rfl))
    (jxR_c (jxL_m rfl rfl rfl rfl (jxat_mk (jxpc5 (j := 40) rfl) rfl))
    (jxR_c (jxL_m rfl rfl rfl rfl (jxat_mk (jxpc5 (j := 41) rfl) rfl))
    (jxR_c (jxL_m rfl rfl rfl rfl (jxat_mk (jxpc5 (j := 49) rfl) rfl))
    (jxR_c (jxL_m rfl rfl rfl rfl (jxat_mk (jxpc5 (j := 58) rfl) rfl))
    (jxR_c (jxL_m rfl rfl rfl rfl (jxat_mk (jxpc5 (j := 59) rfl) rfl))
    (jxR_c (jxL_m rfl rfl rfl rfl (jxat_mk (jxpc5 (j := 63) rfl) rfl))
    (jxR_c (jxL_m rfl rfl rfl rfl (jxat_mk (jxpc5 (j := 67) rfl) rfl))
    (jxR_c (jxL_m rfl rfl rfl rfl (jxat_mk (jxpc5 (j := 75) rfl) rfl))
    (jxR_c (jxL_m rfl rfl rfl rfl (jxat_mk (jxpc5 (j := 83) rfl) rfl))
    (jxR_c (jxL_m rfl rfl rfl rfl (jxat_mk (jxpc5 (j := 91) rfl) rfl))
    (jxR_c (jxL_m rfl rfl rfl rfl (jxat_mk (jxpc5 (j := 171) rfl) rfl))
    (jxR_c (jxL_m rfl rfl rfl rfl (jxat_mk (jxpc5 (j := 183) rfl) rfl))
    (jxR_c (jxL_m rfl rfl rfl rfl (jxat_mk (jxpc5 (j := 184) rfl) rfl))
    (jxR_c (jxL_m rfl rfl rfl rfl (jxat_mk (jxpc5 (j := 188) rfl) rfl))
    (jxR_c (jxL_m rfl rfl rfl rfl (jxat_mk (jxpc5 (j := 196) rfl) rfl))
    (jxR_c (jxL_m rfl rfl rfl rfl (jxat_mk (jxpc5 (j := 205) rfl) rfl))
    (jxR_c (jxL_m rfl rfl rfl rfl (jxat_mk (jxpc5 (j := 206) rfl) rfl))
    (jxR_c (jxL_m rfl rfl rfl rfl (jxat_mk (jxpc5 (j := 207) rfl) rfl))
    (jxR_c (jxL_m rfl rfl rfl rfl (jxat_mk (jxpc5 (j := 208) rfl) rfl))
    (jxR_c (jxL_m rfl rfl rfl rfl (jxat_mk (jxpc5 (j := 212) rfl) rfl))
    (jxR_c (jxL_m rfl rfl rfl rfl (jxat_mk (jxpc5 (j := 220) rfl) rfl))
    (jxR_c (jxL_m rfl rfl rfl rfl (jxat_mk (jxpc5 (j := 224) rfl) rfl))
    (jxR_c (jxL_m rfl rfl rfl rfl (jxat_mk (jxpc6 (j := 11) rfl) rfl))
    (jxR_c (jxL_m rfl rfl rfl rfl (jxat_mk (jxpc6 (j := 15) rfl) rfl))
    (jxR_c (jxL_m rfl rfl rfl rfl (jxat_mk (jxpc6 (j := 27) rfl) rfl))
    (jxR_c (jxL_m rfl rfl rfl rfl (jxat_mk (jxpc6 (j := 36) rfl) rfl))
    (jxR_c (jxL_m rfl rfl rfl rfl (jxat_mk (jxpc6 (j := 74) rfl) rfl))
    (jxR_c (jxL_m rfl rfl rfl rfl (jxat_mk (jxpc6 (j := 83) rfl) rfl))
    (jxR_c (jxL_m rfl rfl rfl rfl (jxat_mk (jxpc6 (j := 88) rfl) rfl))
    (jxR_c (jxL_m rfl rfl rfl rfl (jxat_mk (jxpc6 (j := 92) rfl) rfl))
    (jxR_c (jxL_m rfl rfl rfl rfl (jxat_mk (jxpc6 (j := 96) rfl) rfl))
    (jxR_c (jxL_m rfl rfl rfl rfl (jxat_mk (jxpc6 (j := 100) rfl) rfl))
    (jxR_c (jxL_m rfl rfl rfl rfl (jxat_mk (jxpc6 (j := 104) rfl) rfl))
    (jxR_c (jxL_m rfl rfl rfl rfl (jxat_mk (jxpc6 (j := 108) rfl) rfl))
    (jxR_n))))))))))))))))))))))))))))))))))))))))))))))))))))))))))))))))))))))))))))))))))))))))))))))))))))))))))))))))))
set_option maxRecDepth 100000 in
theorem jxchkL_ok_12 : jxrowP (jxchkL 12) (jxlk.getD 12 []) := jxR_c (jxL_o rfl (jxat_mk (jxpc6 (j := 117) rfl) rfl))
    (jxR_c (jxL_m rfl rfl rfl rfl (jxat_mk (jxpc6 (j := 118) rfl) rfl))
    (jxR_c (jxL_m rfl rfl rfl rfl (jxat_mk (jxpc7 (j := 120) rfl) rfl))
    (jxR_c (jxL_m rfl rfl rfl rfl (jxat_mk (jxpc7 (j := 127) rfl) rfl))
    (jxR_c (jxL_m rfl rfl rfl rfl (jxat_mk (jxpc7 (j := 139) rfl) rfl))
    (jxR_c (jxL_m rfl rfl rfl rfl (jxat_mk (jxpc7 (j := 155) rfl) rfl))
    (jxR_c (jxL_m rfl rfl rfl rfl (jxat_mk (jxpc7 (j := 175) rfl) rfl))
    (jxR_c (jxL_m rfl rfl rfl rfl (jxat_mk (jxpc7 (j := 179) rfl) rfl))
    (jxR_c (jxL_m rfl rfl rfl rfl (jxat_mk (jxpc7 (j := 183) rfl) rfl))
    (jxR_c (jxL_m rfl rfl rfl rfl (jxat_mk (jxpc7 (j := 167) rfl) rfl))
    (jxR_c (jxL_m rfl rfl rfl rfl (jxat_mk (jxpc7 (j := 171) rfl) rfl))
    (jxR_c (jxL_m rfl rfl rfl rfl (jxat_mk (jxpc7 (j := 187) rfl) rfl))
    (jxR_c (jxL_m rfl rfl rfl rfl (jxat_mk (jxpc7 (j := 163) rfl) rfl))
    (jxR_c (jxL_m rfl rfl rfl rfl (jxat_mk (jxpc7 (j := 191) rfl) rfl))
    (jxR_c (jxL_m rfl rfl rfl rfl (jxat_mk (jxpc7 (j := 195) rfl) rfl))
    (jxR_c (jxL_m rfl rfl rfl rfl (jxat_mk (jxpc7 (j := 151) rfl) rfl))
    (jxR_c (jxL_m rfl rfl rfl rfl (jxat_mk (jxpc7 (j := 159) rfl) rfl))
    (jxR_c (jxL_m rfl rfl rfl rfl (jxat_mk (jxpc7 (j := 207) rfl) rfl))
    (jxR_c (jxL_m rfl rfl rfl rfl (jxat_mk (jxpc7 (j := 203) rfl) rfl))
    (jxR_c (jxL_m rfl rfl rfl rfl (jxat_mk (jxpc7 (j := 215) rfl) rfl))
    (jxR_c (jxL_m rfl rfl rfl rfl (jxat_mk (jxpc7 (j := 229) rfl) rfl))
    (jxR_c (jxL_m rfl rfl rfl rfl (jxat_mk (jxpc7 (j := 225) rfl) rfl))
    (jxR_c (jxL_m rfl rfl rfl rfl (jxat_mk (jxpc8 (j := 26) rfl) rfl))
    (jxR_c (jxL_m rfl rfl rfl rfl (jxat_mk (jxpc7 (j := 222) rfl) rfl))
    (jxR_c (jxL_m rfl rfl rfl rfl (jxat_mk (jxpc7 (j := 237) rfl) rfl))
    (jxR_c (jxL_m rfl rfl rfl rfl (jxat_mk (jxpc8 (j := 22) rfl) rfl))
    (jxR_c (jxL_m rfl rfl rfl rfl (jxat_mk (jxpc8 (j := 18) rfl) rfl))
    (jxR_c (jxL_m rfl rfl rfl rfl (jxat_mk (jxpc8 (j := 30) rfl) rfl))
    (jxR_c (jxL_m rfl rfl rfl rfl (jxat_mk (jxpc8 (j := 34) rfl) rfl))
    (jxR_c (jxL_m rfl rfl rfl rfl (jxat_mk (jxpc8 (j := 50) rfl) rfl))
    (jxR_c (jxL_m rfl rfl rfl rfl (jxat_mk (jxpc8 (j := 10) rfl) rfl))
    (jxR_c (jxL_m rfl rfl rfl rfl (jxat_mk (jxpc8 (j := 14) rfl) rfl))
    (jxR_c (jxL_m rfl rfl rfl rfl (jxat_mk (jxpc8 (j := 38) rfl) rfl))
    (jxR_c (jxL_m rfl rfl rfl rfl (jxat_mk (jxpc8 (j := 6) rfl) rfl))
    (jxR_c (jxL_m rfl rfl rfl rfl (jxat_mk (jxpc8 (j := 46) rfl) rfl))
    (jxR_c (jxL_m rfl rfl rfl rfl (jxat_mk (jxpc8 (j := 54) rfl) rfl))
    (jxR_c (jxL_m rfl rfl rfl rfl (jxat_mk (jxpc8 (j := 58) rfl) rfl))
    (jxR_c (jxL_m rfl rfl rfl rfl (jxat_mk (jxpc8 (j := 70) rfl) rfl))
    (jxR_c (jxL_m rfl rfl rfl rfl (jxat_mk (jxpc8 (j := 77) rfl) rfl))
    (jxR_c (jxL_m rfl rfl rfl rfl (jxat_mk (jxpc8 (j := 85) rfl) rfl))
    (jxR_c (jxL_m rfl rfl rfl rfl (jxat_mk (jxpc8 (j := 121) rfl) rfl))
    (jxR_c (jxL_m rfl rfl rfl rfl (jxat_mk (jxpc8 (j := 125) rfl) rfl))
    (jxR_c (jxL_m rfl rfl rfl rfl (jxat_mk (jxpc8 (j := 129) rfl) rfl))
    (jxR_c (jxL_m rfl rfl rfl rfl (jxat_mk (jxpc8 (j := 140) rfl) rfl))
    (jxR_c (jxL_m rfl rfl rfl rfl (jxat_mk (jxpc8 (j := 117) rfl) rfl))
    (jxR_c (jxL_m rfl rfl rfl rfl (jxat_mk (jxpc8 (j := 133) rfl) rfl))
    (jxR_c (jxL_m rfl rfl rfl rfl (jxat_mk (jxpc8 (j := 136) rfl) rfl))
    (jxR_c (jxL_m rfl rfl rfl rfl (jxat_mk (jxpc8 (j := 143) rfl) rfl))
    (jxR_c (jxL_m rfl rfl rfl rfl (jxat_mk (jxpc8 (j := 167) rfl) rfl))
    (jxR_c (jxL_m rfl rfl rfl rfl (jxat_mk (jxpc8 (j := 159) rfl) rfl))
    (jxR_c (jxL_m rfl rfl rfl rfl (jxat_mk (jxpc8 (j := 163) rfl) rfl))
    (jxR_c (jxL_m rfl rfl rfl rfl (jxat_mk (jxpc8 (j := 183) rfl) rfl))
    (jxR_c (jxL_m rfl rfl rfl rfl (jxat_mk (jxpc8 (j := 191) rfl) rfl))
    (jxR_c (jxL_m rfl rfl rfl rfl (jxat_mk (jxpc8 (j := 203) rfl) rfl))
    (jxR_n))))))))))))))))))))))))))))))))))))))))))))))))))))))
set_option maxRecDepth 100000 in
theorem jxchkL_ok_13 : jxrowP (jxchkL 13) (jxlk.getD 13 []) := jxR_n
set_option maxRecDepth 100000 in
theorem jxchkL_ok_14 : jxrowP (jxchkL 14) (jxlk.getD 14 []) := jxR_n
set_option maxRecDepth 100000 in
theorem jxchkL_ok_15 : jxrowP (jxchkL 15) (jxlk.getD 15 []) := jxR_c (jxL_m rfl rfl rfl rfl (jxat_mk (jxpc3 (j := 111) rfl) rfl))
    (jxR_c (jxL_m rfl rfl rfl rfl (jxat_mk (jxpc3 (j := 125) rfl) rfl))
    (jxR_c (jxL_m rfl rfl rfl rfl (jxat_mk (jxpc3 (j := 129) rfl) rfl))
    (jxR_c (jxL_m rfl rfl rfl rfl (jxat_mk (jxpc3 (j := 140) rfl) rfl))
    (jxR_c (jxL_m rfl rfl rfl rfl (jxat_mk (jxpc3 (j := 137) rfl) rfl))
    (jxR_n)))))
set_option maxRecDepth 100000 in
theorem jxchkL_ok_16 : jxrowP (jxchkL 16) (jxlk.getD 16 []) := jxR_c (jxL_m rfl rfl rfl rfl (jxat_mk (jxpc3 (j := 132) rfl) rfl))
    (jxR_n)
set_option maxRecDepth 100000 in
theorem jxchkL_ok_17 : jxrowP (jxchkL 17) (jxlk.getD 17 []) := jxR_c (jxL_m rfl rfl rfl rfl (jxat_mk (jxpc3 (j := 146) rfl) rfl))
    (jxR_c (jxL_m rfl rfl rfl rfl (jxat_mk (jxpc3 (j := 143) rfl) rfl))
    (jxR_c (jxL_m rfl rfl rfl rfl (jxat_mk (jxpc3 (j := 150) rfl) rfl))
    (jxR_c (jxL_m rfl rfl rfl rfl (jxat_mk (jxpc3 (j := 149) rfl) rfl))
    (jxR_n))))
set_option maxRecDepth 100000 in
theorem jxchkL_ok_18 : jxrowP (jxchkL 18) (jxlk.getD 18 []) := jxR_n
set_option maxRecDepth 100000 in
theorem jxchkL_ok_19 : jxrowP (jxchkL 19) (jxlk.getD 19 []) := jxR_c (jxL_m rfl rfl rfl rfl (jxat_mk (jxpc1 (j := 22) rfl) rfl))
    (jxR_c (jxL_m rfl rfl rfl rfl (jxat_mk (jxpc6 (j := 114) rfl) rfl))
    (jxR_c (jxL_m rfl rfl rfl rfl (jxat_mk (jxpc2 (j := 166) rfl) rfl))
    (jxR_c (jxL_m rfl rfl rfl rfl (jxat_mk (jxpc7 (j := 116) rfl) rfl))
    (jxR_c (jxL_m rfl rfl rfl rfl (jxat_mk (jxpc2 (j := 176) rfl) rfl))
    (jxR_c (jxL_m rfl rfl rfl rfl (jxat_mk (jxpc7 (j := 123) rfl) rfl))
    (jxR_c (jxL_m rfl rfl rfl rfl (jxat_mk (jxpc2 (j := 183) rfl) rfl))
    (jxR_c (jxL_m rfl rfl rfl rfl (jxat_mk (jxpc7 (j := 130) rfl) rfl))
    (jxR_c (jxL_m rfl rfl rfl rfl (jxat_mk (jxpc2 (j := 192) rfl) rfl))
    (jxR_c (jxL_m rfl rfl rfl rfl (jxat_mk (jxpc8 (j := 171) rfl) rfl))
    (jxR_c (jxL_m rfl rfl rfl rfl (jxat_mk (jxpc3 (j := 41) rfl) rfl))
    (jxR_c (jxL_m rfl rfl rfl rfl (jxat_mk (jxpc7 (j := 135) rfl) rfl))
    (jxR_c (jxL_m rfl rfl rfl rfl (jxat_mk (jxpc3 (j := 57) rfl) rfl))
    (jxR_c (jxL_m rfl rfl rfl rfl (jxat_mk (jxpc7 (j := 143) rfl) rfl))
    (jxR_c (jxL_m rfl rfl rfl rfl (jxat_mk (jxpc3 (j := 65) rfl) rfl))
    (jxR_c (jxL_m rfl rfl rfl rfl (jxat_mk (jxpc7 (j := 147) rfl) rfl))
    (jxR_c (jxL_m rfl rfl rfl rfl (jxat_mk (jxpc3 (j := 212) rfl) rfl))
    (jxR_c (jxL_m rfl rfl rfl rfl (jxat_mk (jxpc7 (j := 199) rfl) rfl))
    (jxR_c (jxL_m rfl rfl rfl rfl (jxat_mk (jxpc4 (j := 2) rfl) rfl))
    (jxR_c (jxL_m rfl rfl rfl rfl (jxat_mk (jxpc7 (j := 211) rfl) rfl))
    (jxR_c (jxL_m rfl rfl rfl rfl (jxat_mk (jxpc4 (j := 40) rfl) rfl))
    (jxR_c (jxL_m rfl rfl rfl rfl (jxat_mk (jxpc8 (j := 42) rfl) rfl))
    (jxR_c (jxL_m rfl rfl rfl rfl (jxat_mk (jxpc4 (j := 175) rfl) rfl))
    (jxR_c (jxL_m rfl rfl rfl rfl (jxat_mk (jxpc8 (j := 2) rfl) rfl))
    (jxR_c (jxL_m rfl rfl rfl rfl (jxat_mk (jxpc4 (j := 179) rfl) rfl))
    (jxR_c (jxL_m rfl rfl rfl rfl (jxat_mk (jxpc8 (j := 62) rfl) rfl))
    (jxR_c (jxL_m rfl rfl rfl rfl (jxat_mk (jxpc4 (j := 183) rfl) rfl))
    (jxR_c (jxL_m rfl rfl rfl rfl (jxat_mk (jxpc8 (j := 66) rfl) rfl))
    (jxR_c (jxL_m rfl rfl rfl rfl (jxat_mk (jxpc4 (j := 229) rfl) rfl))
    (jxR_c (jxL_m rfl rfl rfl rfl (jxat_mk (jxpc8 (j := 81) rfl) rfl))
    (jxR_c (jxL_m rfl rfl rfl rfl (jxat_mk (jxpc5 (j := 2) rfl) rfl))
    (jxR_c (jxL_m rfl rfl rfl rfl (jxat_mk (jxpc8 (j := 89) rfl) rfl))
    (jxR_c (jxL_m rfl rfl rfl rfl (jxat_mk (jxpc5 (j := 10) rfl) rfl))
    (jxR_c (jxL_m rfl rfl rfl rfl (jxat_mk (jxpc8 (j := 93) rfl) rfl))
    (jxR_c (jxL_m rfl rfl rfl rfl (jxat_mk (jxpc5 (j := 28) rfl) rfl))
    (jxR_c (jxL_m rfl rfl rfl rfl (jxat_mk (jxpc7 (j := 218) rfl) rfl))
    (jxR_c (jxL_m rfl rfl rfl rfl (jxat_mk (jxpc5 (j := 36) rfl) rfl))
    (jxR_c (jxL_m rfl rfl rfl rfl (jxat_mk (jxpc8 (j := 97) rfl) rfl))
    (jxR_c (jxL_m rfl rfl rfl rfl (jxat_mk (jxpc5 (j := 45) rfl) rfl))
    (jxR_c (jxL_m rfl rfl rfl rfl (jxat_mk (jxpc8 (j := 101) rfl) rfl))
    (jxR_c (jxL_m rfl rfl rfl rfl (jxat_mk (jxpc5 (j := 54) rfl) rfl))
    (jxR_c (jxL_m rfl rfl rfl rfl (jxat_mk (jxpc7 (j := 233) rfl) rfl))
    (jxR_c (jxL_m rfl rfl rfl rfl (jxat_mk (jxpc5 (j := 71) rfl) rfl))
    (jxR_c (jxL_m rfl rfl rfl rfl (jxat_mk (jxpc8 (j := 105) rfl) rfl))
    (jxR_c (jxL_m rfl rfl rfl rfl (jxat_mk (jxpc5 (j := 79) rfl) rfl))
    (jxR_c (jxL_m rfl rfl rfl rfl (jxat_mk (jxpc8 (j := 109) rfl) rfl))
    (jxR_c (jxL_m rfl rfl rfl rfl (jxat_mk (jxpc5 (j := 87) rfl) rfl))
    (jxR_c (jxL_m rfl rfl rfl rfl (jxat_mk (jxpc8 (j := 113) rfl) rfl))
    (jxR_c (jxL_m rfl rfl rfl rfl (jxat_mk (jxpc5 (j := 167) rfl) rfl))
    (jxR_c (jxL_m rfl rfl rfl rfl (jxat_mk (jxpc8 (j := 147) rfl) rfl))
    (jxR_c (jxL_m rfl rfl rfl rfl (jxat_mk (jxpc5 (j := 179) rfl) rfl))
    (jxR_c (jxL_m rfl rfl rfl rfl (jxat_mk (jxpc8 (j := 151) rfl) rfl))
    (jxR_c (jxL_m rfl rfl rfl rfl (jxat_mk (jxpc5 (j := 192) rfl) rfl))
    (jxR_c (jxL_m rfl rfl rfl rfl (jxat_mk (jxpc8 (j := 155) rfl) rfl))
    (jxR_c (jxL_m rfl rfl rfl rfl (jxat_mk (jxpc5 (j := 201) rfl) rfl))
    (jxR_c (jxL_m rfl rfl rfl rfl (jxat_mk (jxpc8 (j := 175) rfl) rfl))
    (jxR_c (jxL_m rfl rfl rfl rfl (jxat_mk (jxpc5 (j := 216) rfl) rfl))
    (jxR_c (jxL_m rfl rfl rfl rfl (jxat_mk (jxpc8 (j := 179) rfl) rfl))
    (jxR_c (jxL_m rfl rfl rfl rfl (jxat_mk (jxpc6 (j := 7) rfl) rfl))
    (jxR_c (jxL_m rfl rfl rfl rfl (jxat_mk (jxpc8 (j := 187) rfl) rfl))
    (jxR_c (jxL_m rfl rfl rfl rfl (jxat_mk (jxpc6 (j := 23) rfl) rfl))
    (jxR_c (jxL_m rfl rfl rfl rfl (jxat_mk (jxpc8 (j := 195) rfl) rfl))
    (jxR_c (jxL_m rfl rfl rfl rfl (jxat_mk (jxpc6 (j := 32) rfl) rfl))
    (jxR_c (jxL_m rfl rfl rfl rfl (jxat_mk (jxpc8 (j := 199) rfl) rfl))
    (jxR_c (jxL_m rfl rfl rfl rfl (jxat_mk (jxpc6 (j := 70) rfl) rfl))
    (jxR_c (jxL_m rfl rfl rfl rfl (jxat_mk (jxpc8 (j := 207) rfl) rfl))
    (jxR_c (jxL_m rfl rfl rfl rfl (jxat_mk (jxpc6 (j := 79) rfl) rfl))
    (jxR_c (jxL_m rfl rfl rfl rfl (jxat_mk (jxpc8 (j := 211) rfl) rfl))
    (jxR_n))))))))))))))))))))))))))))))))))))))))))))))))))))))))))))))))))))
set_option maxRecDepth 100000 in
theorem jxchkL_ok : jxall jxlk jxchkL = true := jxall_of (show jxallP jxchkL 0 jxlk from jxA_c jxchkL_ok_0 (jxA_c jxchkL_ok_1 (jxA_c jxchkL_ok_2 (jxA_c jxchkL_ok_3 (jxA_c jxchkL_ok_4 (jxA_c jxchkL_ok_5 (jxA_c jxchkL_ok_6 (jxA_c jxchkL_ok_7 (jxA_c jxchkL_ok_8 (jxA_c jxchkL_ok_9 (jxA_c jxchkL_ok_10 (jxA_c jxchkL_ok_11 (jxA_c jxchkL_ok_12 (jxA_c jxchkL_ok_13 (jxA_c jxchkL_ok_14 (jxA_c jxchkL_ok_15 (jxA_c jxchkL_ok_16 (jxA_c jxchkL_ok_17 (jxA_c jxchkL_ok_18 (jxA_c jxchkL_ok_19 (jxA_n)))))))))))))))))))))
def jxpI : List (Nat × Nat) := [(224, 101), (431, 107), (304, 103), (144, 98), (327, 104), (358, 105), (206, 100), (279, 102), (124, 97), (405, 106), (173, 99), (116, 96), (1408, 108)]
def jxstrs : List (String × Nat × String) := [("CardClub$Wishes", 94, "not"), ("CardClub$Wishes", 117, "land"), ("CardClub$Wishes", 119, "tongue"), ("CardClub$Wishes", 121, "shared"), ("CardClub$Wishes", 123, "far"), ("CardClub$Wishes", 125, "near"), ("CardClub$Wishes", 127, "old"), ("CardClub$Wishes", 129, "any"), ("CardClub$Wishes", 89, "and"), ("CardClub$Wishes", 76, "or"), ("CardClub$RuleBook", 76, "under"), ("CardClub$RuleBook", 82, "more"), ("CardClub$RuleBook", 84, "slack"), ("CardClub$RuleBook", 86, "lost"), ("CardClub$RuleBook", 88, "strict"), ("CardClub$Tariffs", 63, "zone")]
set_option maxRecDepth 100000 in
theorem jxchkO_ok : (jxat 121 (.instanceMethod Lib.objectInit) && jxat 122 (.code Lib.objectInit ⟨#[0xb1]⟩ 1 none)) = true := by decide +kernel
def jxchkC (own idx ci : Nat) : Bool := match jxfind2 jxpC own idx with
  | none => false
  | some i => bif Nat.beq ci 1001 then jxat i (.classLink (jxcn own) idx "[[I") else match vwCl[ci]?, jxpI[ci]?, jxblank[ci]? with
    | some q, some p, some rs => jxat i (.classLink (jxcn own) idx q.1) && jxat p.1 (.instantiable q.1 q.2.2) && jxat p.2 (.initialized q.1) && Nat.beq rs.length q.2.2 && (List.range q.2.2).all (fun j => match rs[j]?, parseFieldDescriptor (q.2.1 j).2.2.1 with
      | some 0, some ty => decide (defaultValue ty = .int 0)
      | some 1, some ty => decide (defaultValue ty = .long 0)
      | some 2, some ty => decide (defaultValue ty = .null)
      | _, _ => false)
    | _, _, _ => false
set_option maxRecDepth 100000 in
theorem jxchkC_ok : jxall jxcl jxchkC = true := by decide +kernel
def jxchkK (own idx : Nat) (v : jxV) : Bool := match v with
  | .inl a => (match jxfind2 jxpK own idx with
    | some i => jxat i (.constant (jxcn own) idx (Int32.ofInt a)) && decide (-2147483648 ≤ a ∧ a < 2147483648)
    | none => false)
  | .inr (.inl a) => (match jxfind2 jxpK own idx with
    | some i => jxat i (.constantLong (jxcn own) idx (Int64.ofInt a)) && decide (-9223372036854775808 ≤ a ∧ a < 9223372036854775808)
    | none => false)
  | .inr (.inr (.inl r)) => Nat.ble 1000 r && (match jxstrs[r - 1000]? with
    | some q => decide (q.1 = jxcn own ∧ q.2.1 = idx)
    | none => false)
  | _ => false
set_option maxRecDepth 100000 in
theorem jxchkK_ok : jxall jxldc jxchkK = true := by decide +kernel
def jxchkS (own idx : Nat) (v : jxV) : Bool := match jxfind2 jxpS own idx with
  | none => false
  | some (i, C, n, d) => jxat i (.fieldLink (jxcn own) idx C n d) && (match v with
    | .inl a => decide (a = 1 ∧ C = "java/lang/String" ∧ n = "COMPACT_STRINGS" ∧ d = "Z")
    | .inr (.inr (.inl r)) => bif Nat.beq r 4000 then decide (C = "jdk/internal/util/Preconditions" ∧ n = "SIOOBE_FORMATTER" ∧ d = "Ljava/util/function/BiFunction;") else Nat.ble 3001 r && decide (C = "CardClub$RuleBook" ∧ d = "[I" ∧ (["LEAST", "MOST", "WITHOUT"] : List String)[r - 3001]? = some n)
    | _ => false)
set_option maxRecDepth 100000 in
theorem jxchkS_ok : jxall jxsf jxchkS = true := by decide +kernel
set_option maxRecDepth 100000 in
theorem jxchkA_ok : (jxat 142 (.arrayClass .int) && jxat 325 (.arrayClass .long) && jxat 171 (.arrayClass .boolean) && jxat 786 (.arrayClass .byte)) = true := by decide +kernel
def jxint (n lo hi : Int) : Bool := decide (lo ≤ n ∧ n < hi)
/-- the length of an instruction, and that its numbers are in range -/
def jxiok (i : Instr) (n : Nat) : Bool := match i with
  | .aload _ => Nat.beq n 2
  | .iload _ => Nat.beq n 2
  | .lload _ => Nat.beq n 2
  | .istore _ => Nat.beq n 2
  | .lstore _ => Nat.beq n 2
  | .bipush v => Nat.beq n 2 && jxint v (-128) 128
  | .sipush v => Nat.beq n 3 && jxint v (-32768) 32768
  | .iconst v => Nat.beq n 1 && jxint v (-1) 6
  | .ldc _ => Nat.beq n 2
  | .ldc_w _ => Nat.beq n 3
  | .ldc2_w _ => Nat.beq n 3
  | .iinc _ v => Nat.beq n 3 && jxint v (-128) 128
  | .ifCond _ _ => Nat.beq n 3
  | .if_icmp _ _ => Nat.beq n 3
  | .goto _ => Nat.beq n 3
  | .getfield _ => Nat.beq n 3
  | .putfield _ => Nat.beq n 3
  | .getstatic _ => Nat.beq n 3
  | .newarray _ => Nat.beq n 2
  | .multianewarray _ _ => Nat.beq n 4
  | .new _ => Nat.beq n 3
  | .invokestatic _ => Nat.beq n 3
  | .invokevirtual _ => Nat.beq n 3
  | .invokespecial _ => Nat.beq n 3
  | .tableswitch _ _ _ _ => true
  | _ => Nat.beq n 1
def jxchkp (y pc : Nat) : Bool := match jxcode y pc with
  | none => true
  | some (i, n) => decide (decode (jxcd y) pc = .ok (i, n)) && jxiok i n
def jxchkc (y a n : Nat) : Bool := (List.range n).all (fun k => jxchkp y (a + k))
set_option maxRecDepth 100000 in
theorem jxkc0_0 : jxchkc 0 0 100 = true := by decide +kernel
set_option maxRecDepth 100000 in
theorem jxkc0_100 : jxchkc 0 100 25 = true := by decide +kernel
set_option maxRecDepth 100000 in
theorem jxkc1_0 : jxchkc 1 0 5 = true := by decide +kernel
set_option maxRecDepth 100000 in
theorem jxkc2_0 : jxchkc 2 0 5 = true := by decide +kernel
set_option maxRecDepth 100000 in
theorem jxkc3_0 : jxchkc 3 0 25 = true := by decide +kernel
set_option maxRecDepth 100000 in
theorem jxkc4_0 : jxchkc 4 0 18 = true := by decide +kernel
set_option maxRecDepth 100000 in
theorem jxkc5_0 : jxchkc 5 0 96 = true := by decide +kernel
set_option maxRecDepth 100000 in
theorem jxkc6_0 : jxchkc 6 0 13 = true := by decide +kernel
set_option maxRecDepth 100000 in
theorem jxkc7_0 : jxchkc 7 0 13 = true := by decide +kernel
set_option maxRecDepth 100000 in
theorem jxkc8_0 : jxchkc 8 0 13 = true := by decide +kernel
set_option maxRecDepth 100000 in
theorem jxkc9_0 : jxchkc 9 0 13 = true := by decide +kernel
set_option maxRecDepth 100000 in
theorem jxkc10_0 : jxchkc 10 0 13 = true := by decide +kernel
set_option maxRecDepth 100000 in
theorem jxkc11_0 : jxchkc 11 0 13 = true := by decide +kernel
set_option maxRecDepth 100000 in
theorem jxkc12_0 : jxchkc 12 0 24 = true := by decide +kernel
set_option maxRecDepth 100000 in
theorem jxkc13_0 : jxchkc 13 0 16 = true := by decide +kernel
set_option maxRecDepth 100000 in
theorem jxkc14_0 : jxchkc 14 0 32 = true := by decide +kernel
set_option maxRecDepth 100000 in
theorem jxkc15_0 : jxchkc 15 0 25 = true := by decide +kernel
set_option maxRecDepth 100000 in
theorem jxkc16_0 : jxchkc 16 0 82 = true := by decide +kernel
set_option maxRecDepth 100000 in
theorem jxkc17_0 : jxchkc 17 0 13 = true := by decide +kernel
set_option maxRecDepth 100000 in
theorem jxkc18_0 : jxchkc 18 0 62 = true := by decide +kernel
set_option maxRecDepth 100000 in
theorem jxkc19_0 : jxchkc 19 0 100 = true := by decide +kernel
set_option maxRecDepth 100000 in
theorem jxkc19_100 : jxchkc 19 100 23 = true := by decide +kernel
set_option maxRecDepth 100000 in
theorem jxkc20_0 : jxchkc 20 0 52 = true := by decide +kernel
set_option maxRecDepth 100000 in
theorem jxkc21_0 : jxchkc 21 0 73 = true := by decide +kernel
set_option maxRecDepth 100000 in
theorem jxkc22_0 : jxchkc 22 0 31 = true := by decide +kernel
set_option maxRecDepth 100000 in
theorem jxkc23_0 : jxchkc 23 0 100 = true := by decide +kernel
set_option maxRecDepth 100000 in
theorem jxkc23_100 : jxchkc 23 100 46 = true := by decide +kernel
set_option maxRecDepth 100000 in
theorem jxkc24_0 : jxchkc 24 0 46 = true := by decide +kernel
set_option maxRecDepth 100000 in
theorem jxkc25_0 : jxchkc 25 0 5 = true := by decide +kernel
set_option maxRecDepth 100000 in
theorem jxkc26_0 : jxchkc 26 0 5 = true := by decide +kernel
set_option maxRecDepth 100000 in
theorem jxkc27_0 : jxchkc 27 0 5 = true := by decide +kernel
set_option maxRecDepth 100000 in
theorem jxkc28_0 : jxchkc 28 0 66 = true := by decide +kernel
set_option maxRecDepth 100000 in
theorem jxkc29_0 : jxchkc 29 0 60 = true := by decide +kernel
set_option maxRecDepth 100000 in
theorem jxkc30_0 : jxchkc 30 0 11 = true := by decide +kernel
set_option maxRecDepth 100000 in
theorem jxkc31_0 : jxchkc 31 0 11 = true := by decide +kernel
set_option maxRecDepth 100000 in
theorem jxkc32_0 : jxchkc 32 0 11 = true := by decide +kernel
set_option maxRecDepth 100000 in
theorem jxkc33_0 : jxchkc 33 0 64 = true := by decide +kernel
set_option maxRecDepth 100000 in
theorem jxkc34_0 : jxchkc 34 0 38 = true := by decide +kernel
set_option maxRecDepth 100000 in
theorem jxkc35_0 : jxchkc 35 0 57 = true := by decide +kernel
set_option maxRecDepth 100000 in
theorem jxkc36_0 : jxchkc 36 0 52 = true := by decide +kernel
set_option maxRecDepth 100000 in
theorem jxkc37_0 : jxchkc 37 0 100 = true := by decide +kernel
set_option maxRecDepth 100000 in
theorem jxkc38_0 : jxchkc 38 0 72 = true := by decide +kernel
set_option maxRecDepth 100000 in
theorem jxkc39_0 : jxchkc 39 0 8 = true := by decide +kernel
set_option maxRecDepth 100000 in
theorem jxkc40_0 : jxchkc 40 0 41 = true := by decide +kernel
set_option maxRecDepth 100000 in
theorem jxkc41_0 : jxchkc 41 0 92 = true := by decide +kernel
set_option maxRecDepth 100000 in
theorem jxkc42_0 : jxchkc 42 0 24 = true := by decide +kernel
set_option maxRecDepth 100000 in
theorem jxkc43_0 : jxchkc 43 0 30 = true := by decide +kernel
set_option maxRecDepth 100000 in
theorem jxkc44_0 : jxchkc 44 0 69 = true := by decide +kernel
set_option maxRecDepth 100000 in
theorem jxkc45_0 : jxchkc 45 0 100 = true := by decide +kernel
set_option maxRecDepth 100000 in
theorem jxkc45_100 : jxchkc 45 100 11 = true := by decide +kernel
set_option maxRecDepth 100000 in
theorem jxkc46_0 : jxchkc 46 0 81 = true := by decide +kernel
set_option maxRecDepth 100000 in
theorem jxkc47_0 : jxchkc 47 0 42 = true := by decide +kernel
set_option maxRecDepth 100000 in
theorem jxkc48_0 : jxchkc 48 0 8 = true := by decide +kernel
set_option maxRecDepth 100000 in
theorem jxkc49_0 : jxchkc 49 0 58 = true := by decide +kernel
set_option maxRecDepth 100000 in
theorem jxkc50_0 : jxchkc 50 0 5 = true := by decide +kernel
set_option maxRecDepth 100000 in
theorem jxkc51_0 : jxchkc 51 0 24 = true := by decide +kernel
set_option maxRecDepth 100000 in
theorem jxkc52_0 : jxchkc 52 0 23 = true := by decide +kernel
set_option maxRecDepth 100000 in
theorem jxkc53_0 : jxchkc 53 0 31 = true := by decide +kernel
set_option maxRecDepth 100000 in
theorem jxkc54_0 : jxchkc 54 0 74 = true := by decide +kernel
set_option maxRecDepth 100000 in
theorem jxkc55_0 : jxchkc 55 0 16 = true := by decide +kernel
set_option maxRecDepth 100000 in
theorem jxkc56_0 : jxchkc 56 0 19 = true := by decide +kernel
set_option maxRecDepth 100000 in
theorem jxkc57_0 : jxchkc 57 0 13 = true := by decide +kernel
set_option maxRecDepth 100000 in
theorem jxkc58_0 : jxchkc 58 0 19 = true := by decide +kernel
set_option maxRecDepth 100000 in
theorem jxkc59_0 : jxchkc 59 0 13 = true := by decide +kernel
set_option maxRecDepth 100000 in
theorem jxkc60_0 : jxchkc 60 0 19 = true := by decide +kernel
set_option maxRecDepth 100000 in
theorem jxkc61_0 : jxchkc 61 0 52 = true := by decide +kernel
set_option maxRecDepth 100000 in
theorem jxkc62_0 : jxchkc 62 0 63 = true := by decide +kernel
set_option maxRecDepth 100000 in
theorem jxkc63_0 : jxchkc 63 0 5 = true := by decide +kernel
set_option maxRecDepth 100000 in
theorem jxkc64_0 : jxchkc 64 0 5 = true := by decide +kernel
set_option maxRecDepth 100000 in
theorem jxkc65_0 : jxchkc 65 0 24 = true := by decide +kernel
set_option maxRecDepth 100000 in
theorem jxkc66_0 : jxchkc 66 0 83 = true := by decide +kernel
set_option maxRecDepth 100000 in
theorem jxkc67_0 : jxchkc 67 0 12 = true := by decide +kernel
set_option maxRecDepth 100000 in
theorem jxkc68_0 : jxchkc 68 0 30 = true := by decide +kernel
set_option maxRecDepth 100000 in
theorem jxkc69_0 : jxchkc 69 0 30 = true := by decide +kernel
set_option maxRecDepth 100000 in
theorem jxkc70_0 : jxchkc 70 0 23 = true := by decide +kernel
set_option maxRecDepth 100000 in
theorem jxkc71_0 : jxchkc 71 0 24 = true := by decide +kernel
set_option maxRecDepth 100000 in
theorem jxkc72_0 : jxchkc 72 0 48 = true := by decide +kernel
set_option maxRecDepth 100000 in
theorem jxkc73_0 : jxchkc 73 0 13 = true := by decide +kernel
set_option maxRecDepth 100000 in
theorem jxkc74_0 : jxchkc 74 0 13 = true := by decide +kernel
set_option maxRecDepth 100000 in
theorem jxkc75_0 : jxchkc 75 0 19 = true := by decide +kernel
set_option maxRecDepth 100000 in
theorem jxkc76_0 : jxchkc 76 0 13 = true := by decide +kernel
set_option maxRecDepth 100000 in
theorem jxkc77_0 : jxchkc 77 0 13 = true := by decide +kernel
set_option maxRecDepth 100000 in
theorem jxkc78_0 : jxchkc 78 0 13 = true := by decide +kernel
set_option maxRecDepth 100000 in
theorem jxkc79_0 : jxchkc 79 0 97 = true := by decide +kernel
set_option maxRecDepth 100000 in
theorem jxkc80_0 : jxchkc 80 0 29 = true := by decide +kernel
set_option maxRecDepth 100000 in
theorem jxkc81_0 : jxchkc 81 0 31 = true := by decide +kernel
set_option maxRecDepth 100000 in
theorem jxkc82_0 : jxchkc 82 0 25 = true := by decide +kernel
set_option maxRecDepth 100000 in
theorem jxkc83_0 : jxchkc 83 0 62 = true := by decide +kernel
set_option maxRecDepth 100000 in
theorem jxkc84_0 : jxchkc 84 0 100 = true := by decide +kernel
set_option maxRecDepth 100000 in
theorem jxkc84_100 : jxchkc 84 100 43 = true := by decide +kernel
set_option maxRecDepth 100000 in
theorem jxkc85_0 : jxchkc 85 0 20 = true := by decide +kernel
set_option maxRecDepth 100000 in
theorem jxkc86_0 : jxchkc 86 0 62 = true := by decide +kernel
set_option maxRecDepth 100000 in
theorem jxkc87_0 : jxchkc 87 0 100 = true := by decide +kernel
set_option maxRecDepth 100000 in
theorem jxkc87_100 : jxchkc 87 100 18 = true := by decide +kernel
set_option maxRecDepth 100000 in
theorem jxkc88_0 : jxchkc 88 0 9 = true := by decide +kernel
set_option maxRecDepth 100000 in
theorem jxkc89_0 : jxchkc 89 0 27 = true := by decide +kernel
set_option maxRecDepth 100000 in
theorem jxkc90_0 : jxchkc 90 0 53 = true := by decide +kernel
set_option maxRecDepth 100000 in
theorem jxkc91_0 : jxchkc 91 0 93 = true := by decide +kernel
set_option maxRecDepth 100000 in
theorem jxkc92_0 : jxchkc 92 0 7 = true := by decide +kernel
set_option maxRecDepth 100000 in
theorem jxkc93_0 : jxchkc 93 0 13 = true := by decide +kernel
set_option maxRecDepth 100000 in
theorem jxkc94_0 : jxchkc 94 0 78 = true := by decide +kernel
set_option maxRecDepth 100000 in
theorem jxkc95_0 : jxchkc 95 0 100 = true := by decide +kernel
set_option maxRecDepth 100000 in
theorem jxkc95_100 : jxchkc 95 100 66 = true := by decide +kernel
set_option maxRecDepth 100000 in
theorem jxkc96_0 : jxchkc 96 0 90 = true := by decide +kernel
set_option maxRecDepth 100000 in
theorem jxkc97_0 : jxchkc 97 0 48 = true := by decide +kernel
set_option maxRecDepth 100000 in
theorem jxkc98_0 : jxchkc 98 0 7 = true := by decide +kernel
set_option maxRecDepth 100000 in
theorem jxkc99_0 : jxchkc 99 0 7 = true := by decide +kernel
set_option maxRecDepth 100000 in
theorem jxkc100_0 : jxchkc 100 0 7 = true := by decide +kernel
set_option maxRecDepth 100000 in
theorem jxkc101_0 : jxchkc 101 0 7 = true := by decide +kernel
set_option maxRecDepth 100000 in
theorem jxkc102_0 : jxchkc 102 0 7 = true := by decide +kernel
set_option maxRecDepth 100000 in
theorem jxkc103_0 : jxchkc 103 0 89 = true := by decide +kernel
set_option maxRecDepth 100000 in
theorem jxkc104_0 : jxchkc 104 0 45 = true := by decide +kernel
set_option maxRecDepth 100000 in
theorem jxkc105_0 : jxchkc 105 0 76 = true := by decide +kernel
set_option maxRecDepth 100000 in
theorem jxkc106_0 : jxchkc 106 0 59 = true := by decide +kernel
set_option maxRecDepth 100000 in
theorem jxkc107_0 : jxchkc 107 0 53 = true := by decide +kernel
set_option maxRecDepth 100000 in
theorem jxkc108_0 : jxchkc 108 0 98 = true := by decide +kernel
set_option maxRecDepth 100000 in
theorem jxkc109_0 : jxchkc 109 0 100 = true := by decide +kernel
set_option maxRecDepth 100000 in
theorem jxkc109_100 : jxchkc 109 100 5 = true := by decide +kernel
set_option maxRecDepth 100000 in
theorem jxkc110_0 : jxchkc 110 0 11 = true := by decide +kernel
set_option maxRecDepth 100000 in
theorem jxkc111_0 : jxchkc 111 0 11 = true := by decide +kernel
set_option maxRecDepth 100000 in
theorem jxkc112_0 : jxchkc 112 0 11 = true := by decide +kernel
set_option maxRecDepth 100000 in
theorem jxkc113_0 : jxchkc 113 0 11 = true := by decide +kernel
set_option maxRecDepth 100000 in
theorem jxkc114_0 : jxchkc 114 0 11 = true := by decide +kernel
set_option maxRecDepth 100000 in
theorem jxkc115_0 : jxchkc 115 0 11 = true := by decide +kernel
set_option maxRecDepth 100000 in
theorem jxkc116_0 : jxchkc 116 0 29 = true := by decide +kernel
set_option maxRecDepth 100000 in
theorem jxkc117_0 : jxchkc 117 0 5 = true := by decide +kernel
set_option maxRecDepth 100000 in
theorem jxkc118_0 : jxchkc 118 0 18 = true := by decide +kernel
set_option maxRecDepth 100000 in
theorem jxkc119_0 : jxchkc 119 0 49 = true := by decide +kernel
set_option maxRecDepth 100000 in
theorem jxkc120_0 : jxchkc 120 0 18 = true := by decide +kernel
set_option maxRecDepth 100000 in
theorem jxkc121_0 : jxchkc 121 0 15 = true := by decide +kernel
set_option maxRecDepth 100000 in
theorem jxkc122_0 : jxchkc 122 0 13 = true := by decide +kernel
set_option maxRecDepth 100000 in
theorem jxkc123_0 : jxchkc 123 0 8 = true := by decide +kernel
set_option maxRecDepth 100000 in
theorem jxkc124_0 : jxchkc 124 0 20 = true := by decide +kernel
set_option maxRecDepth 100000 in
theorem jxkc125_0 : jxchkc 125 0 10 = true := by decide +kernel
set_option maxRecDepth 100000 in
theorem jxkc126_0 : jxchkc 126 0 5 = true := by decide +kernel
set_option maxRecDepth 100000 in
theorem jxkc127_0 : jxchkc 127 0 17 = true := by decide +kernel
set_option maxRecDepth 100000 in
theorem jxkc128_0 : jxchkc 128 0 100 = true := by decide +kernel
set_option maxRecDepth 100000 in
theorem jxkc128_100 : jxchkc 128 100 7 = true := by decide +kernel
set_option maxRecDepth 100000 in
theorem jxkc129_0 : jxchkc 129 0 49 = true := by decide +kernel
set_option maxRecDepth 100000 in
theorem jxkc130_0 : jxchkc 130 0 100 = true := by decide +kernel
set_option maxRecDepth 100000 in
theorem jxkc130_100 : jxchkc 130 100 40 = true := by decide +kernel
set_option maxRecDepth 100000 in
theorem jxkc131_0 : jxchkc 131 0 39 = true := by decide +kernel
set_option maxRecDepth 100000 in
theorem jxkc132_0 : jxchkc 132 0 62 = true := by decide +kernel
set_option maxRecDepth 100000 in
theorem jxkc133_0 : jxchkc 133 0 5 = true := by decide +kernel
set_option maxRecDepth 100000 in
theorem jxkc134_0 : jxchkc 134 0 15 = true := by decide +kernel
set_option maxRecDepth 100000 in
theorem jxkc135_0 : jxchkc 135 0 100 = true := by decide +kernel
set_option maxRecDepth 100000 in
theorem jxkc135_100 : jxchkc 135 100 9 = true := by decide +kernel
set_option maxRecDepth 100000 in
theorem jxkc136_0 : jxchkc 136 0 100 = true := by decide +kernel
set_option maxRecDepth 100000 in
theorem jxkc136_100 : jxchkc 136 100 53 = true := by decide +kernel
set_option maxRecDepth 100000 in
theorem jxkc137_0 : jxchkc 137 0 52 = true := by decide +kernel
set_option maxRecDepth 100000 in
theorem jxkc138_0 : jxchkc 138 0 92 = true := by decide +kernel
set_option maxRecDepth 100000 in
theorem jxkc139_0 : jxchkc 139 0 52 = true := by decide +kernel
set_option maxRecDepth 100000 in
theorem jxkc140_0 : jxchkc 140 0 58 = true := by decide +kernel
set_option maxRecDepth 100000 in
theorem jxkc141_0 : jxchkc 141 0 77 = true := by decide +kernel
set_option maxRecDepth 100000 in
theorem jxkc142_0 : jxchkc 142 0 53 = true := by decide +kernel
set_option maxRecDepth 100000 in
theorem jxkc143_0 : jxchkc 143 0 44 = true := by decide +kernel
set_option maxRecDepth 100000 in
theorem jxkc144_0 : jxchkc 144 0 44 = true := by decide +kernel
set_option maxRecDepth 100000 in
theorem jxkc145_0 : jxchkc 145 0 100 = true := by decide +kernel
set_option maxRecDepth 100000 in
theorem jxkc145_100 : jxchkc 145 100 29 = true := by decide +kernel
set_option maxRecDepth 100000 in
theorem jxkc146_0 : jxchkc 146 0 76 = true := by decide +kernel
set_option maxRecDepth 100000 in
theorem jxkc147_0 : jxchkc 147 0 100 = true := by decide +kernel
set_option maxRecDepth 100000 in
theorem jxkc147_100 : jxchkc 147 100 3 = true := by decide +kernel
set_option maxRecDepth 100000 in
theorem jxkc148_0 : jxchkc 148 0 52 = true := by decide +kernel
set_option maxRecDepth 100000 in
theorem jxkc149_0 : jxchkc 149 0 36 = true := by decide +kernel
set_option maxRecDepth 100000 in
theorem jxkc150_0 : jxchkc 150 0 100 = true := by decide +kernel
set_option maxRecDepth 100000 in
theorem jxkc150_100 : jxchkc 150 100 96 = true := by decide +kernel
set_option maxRecDepth 100000 in
theorem jxkc151_0 : jxchkc 151 0 100 = true := by decide +kernel
set_option maxRecDepth 100000 in
theorem jxkc151_100 : jxchkc 151 100 67 = true := by decide +kernel
set_option maxRecDepth 100000 in
theorem jxkc152_0 : jxchkc 152 0 33 = true := by decide +kernel
set_option maxRecDepth 100000 in
theorem jxkc153_0 : jxchkc 153 0 100 = true := by decide +kernel
set_option maxRecDepth 100000 in
theorem jxkc153_100 : jxchkc 153 100 100 = true := by decide +kernel
set_option maxRecDepth 100000 in
theorem jxkc153_200 : jxchkc 153 200 43 = true := by decide +kernel
set_option maxRecDepth 100000 in
theorem jxkc154_0 : jxchkc 154 0 24 = true := by decide +kernel
set_option maxRecDepth 100000 in
theorem jxkc155_0 : jxchkc 155 0 71 = true := by decide +kernel
set_option maxRecDepth 100000 in
theorem jxkc156_0 : jxchkc 156 0 58 = true := by decide +kernel
set_option maxRecDepth 100000 in
theorem jxkc157_0 : jxchkc 157 0 68 = true := by decide +kernel
set_option maxRecDepth 100000 in
theorem jxkc158_0 : jxchkc 158 0 80 = true := by decide +kernel
set_option maxRecDepth 100000 in
theorem jxkc159_0 : jxchkc 159 0 100 = true := by decide +kernel
set_option maxRecDepth 100000 in
theorem jxkc159_100 : jxchkc 159 100 7 = true := by decide +kernel
set_option maxRecDepth 100000 in
theorem jxkc160_0 : jxchkc 160 0 64 = true := by decide +kernel
set_option maxRecDepth 100000 in
theorem jxkc161_0 : jxchkc 161 0 27 = true := by decide +kernel
set_option maxRecDepth 100000 in
theorem jxkc162_0 : jxchkc 162 0 44 = true := by decide +kernel
set_option maxRecDepth 100000 in
theorem jxkc163_0 : jxchkc 163 0 51 = true := by decide +kernel
set_option maxRecDepth 100000 in
theorem jxkc164_0 : jxchkc 164 0 36 = true := by decide +kernel
set_option maxRecDepth 100000 in
theorem jxkc165_0 : jxchkc 165 0 74 = true := by decide +kernel
set_option maxRecDepth 100000 in
theorem jxkc166_0 : jxchkc 166 0 62 = true := by decide +kernel
set_option maxRecDepth 100000 in
theorem jxkc167_0 : jxchkc 167 0 72 = true := by decide +kernel
set_option maxRecDepth 100000 in
theorem jxkc168_0 : jxchkc 168 0 100 = true := by decide +kernel
set_option maxRecDepth 100000 in
theorem jxkc168_100 : jxchkc 168 100 90 = true := by decide +kernel
set_option maxRecDepth 100000 in
theorem jxkc169_0 : jxchkc 169 0 67 = true := by decide +kernel
set_option maxRecDepth 100000 in
theorem jxkc170_0 : jxchkc 170 0 36 = true := by decide +kernel
set_option maxRecDepth 100000 in
theorem jxkc171_0 : jxchkc 171 0 64 = true := by decide +kernel
set_option maxRecDepth 100000 in
theorem jxkc172_0 : jxchkc 172 0 71 = true := by decide +kernel
set_option maxRecDepth 100000 in
theorem jxkc173_0 : jxchkc 173 0 44 = true := by decide +kernel
set_option maxRecDepth 100000 in
theorem jxkc174_0 : jxchkc 174 0 69 = true := by decide +kernel
set_option maxRecDepth 100000 in
theorem jxkc175_0 : jxchkc 175 0 93 = true := by decide +kernel
set_option maxRecDepth 100000 in
theorem jxkc176_0 : jxchkc 176 0 49 = true := by decide +kernel
set_option maxRecDepth 100000 in
theorem jxkc177_0 : jxchkc 177 0 14 = true := by decide +kernel
set_option maxRecDepth 100000 in
theorem jxkc178_0 : jxchkc 178 0 13 = true := by decide +kernel
set_option maxRecDepth 100000 in
theorem jxkc179_0 : jxchkc 179 0 100 = true := by decide +kernel
set_option maxRecDepth 100000 in
theorem jxkc179_100 : jxchkc 179 100 9 = true := by decide +kernel
set_option maxRecDepth 100000 in
theorem jxkc180_0 : jxchkc 180 0 38 = true := by decide +kernel
set_option maxRecDepth 100000 in
theorem jxkc181_0 : jxchkc 181 0 100 = true := by decide +kernel
set_option maxRecDepth 100000 in
theorem jxkc181_100 : jxchkc 181 100 100 = true := by decide +kernel
set_option maxRecDepth 100000 in
theorem jxkc181_200 : jxchkc 181 200 11 = true := by decide +kernel
set_option maxRecDepth 100000 in
theorem jxkc182_0 : jxchkc 182 0 28 = true := by decide +kernel
set_option maxRecDepth 100000 in
theorem jxkc183_0 : jxchkc 183 0 69 = true := by decide +kernel
set_option maxRecDepth 100000 in
theorem jxkc184_0 : jxchkc 184 0 34 = true := by decide +kernel
set_option maxRecDepth 100000 in
theorem jxkc185_0 : jxchkc 185 0 23 = true := by decide +kernel
set_option maxRecDepth 100000 in
theorem jxkc186_0 : jxchkc 186 0 8 = true := by decide +kernel
set_option maxRecDepth 100000 in
theorem jxkc187_0 : jxchkc 187 0 10 = true := by decide +kernel
set_option maxRecDepth 100000 in
theorem jxkc188_0 : jxchkc 188 0 100 = true := by decide +kernel
set_option maxRecDepth 100000 in
theorem jxkc188_100 : jxchkc 188 100 60 = true := by decide +kernel
set_option maxRecDepth 100000 in
theorem jxkc189_0 : jxchkc 189 0 25 = true := by decide +kernel
set_option maxRecDepth 100000 in
theorem jxkc190_0 : jxchkc 190 0 98 = true := by decide +kernel
set_option maxRecDepth 100000 in
theorem jxkc191_0 : jxchkc 191 0 42 = true := by decide +kernel
set_option maxRecDepth 100000 in
theorem jxkc192_0 : jxchkc 192 0 67 = true := by decide +kernel
set_option maxRecDepth 100000 in
theorem jxkc193_0 : jxchkc 193 0 11 = true := by decide +kernel
set_option maxRecDepth 100000 in
theorem jxkc194_0 : jxchkc 194 0 100 = true := by decide +kernel
set_option maxRecDepth 100000 in
theorem jxkc194_100 : jxchkc 194 100 12 = true := by decide +kernel
set_option maxRecDepth 100000 in
theorem jxkc195_0 : jxchkc 195 0 9 = true := by decide +kernel
set_option maxRecDepth 100000 in
theorem jxkc196_0 : jxchkc 196 0 53 = true := by decide +kernel
set_option maxRecDepth 100000 in
theorem jxkc197_0 : jxchkc 197 0 100 = true := by decide +kernel
set_option maxRecDepth 100000 in
theorem jxkc197_100 : jxchkc 197 100 96 = true := by decide +kernel
set_option maxRecDepth 100000 in
theorem jxkc198_0 : jxchkc 198 0 50 = true := by decide +kernel
set_option maxRecDepth 100000 in
theorem jxkc199_0 : jxchkc 199 0 16 = true := by decide +kernel
set_option maxRecDepth 100000 in
theorem jxkc200_0 : jxchkc 200 0 9 = true := by decide +kernel
set_option maxRecDepth 100000 in
theorem jxkc201_0 : jxchkc 201 0 8 = true := by decide +kernel
set_option maxRecDepth 100000 in
theorem jxkc202_0 : jxchkc 202 0 23 = true := by decide +kernel
set_option maxRecDepth 100000 in
theorem jxkc203_0 : jxchkc 203 0 100 = true := by decide +kernel
set_option maxRecDepth 100000 in
theorem jxkc203_100 : jxchkc 203 100 100 = true := by decide +kernel
set_option maxRecDepth 100000 in
theorem jxkc203_200 : jxchkc 203 200 100 = true := by decide +kernel
set_option maxRecDepth 100000 in
theorem jxkc203_300 : jxchkc 203 300 100 = true := by decide +kernel
set_option maxRecDepth 100000 in
theorem jxkc203_400 : jxchkc 203 400 100 = true := by decide +kernel
set_option maxRecDepth 100000 in
theorem jxkc203_500 : jxchkc 203 500 100 = true := by decide +kernel
set_option maxRecDepth 100000 in
theorem jxkc203_600 : jxchkc 203 600 100 = true := by decide +kernel
set_option maxRecDepth 100000 in
theorem jxkc203_700 : jxchkc 203 700 100 = true := by decide +kernel
set_option maxRecDepth 100000 in
theorem jxkc203_800 : jxchkc 203 800 100 = true := by decide +kernel
set_option maxRecDepth 100000 in
theorem jxkc203_900 : jxchkc 203 900 100 = true := by decide +kernel
set_option maxRecDepth 100000 in
theorem jxkc203_1000 : jxchkc 203 1000 79 = true := by decide +kernel
set_option maxRecDepth 100000 in
theorem jxkc204_0 : jxchkc 204 0 16 = true := by decide +kernel
set_option maxRecDepth 100000 in
theorem jxkc205_0 : jxchkc 205 0 9 = true := by decide +kernel
set_option maxRecDepth 100000 in
theorem jxkc206_0 : jxchkc 206 0 8 = true := by decide +kernel
set_option maxRecDepth 100000 in
theorem jxkc207_0 : jxchkc 207 0 12 = true := by decide +kernel
set_option maxRecDepth 100000 in
theorem jxkc208_0 : jxchkc 208 0 23 = true := by decide +kernel
set_option maxRecDepth 100000 in
theorem jxkc209_0 : jxchkc 209 0 71 = true := by decide +kernel
set_option maxRecDepth 100000 in
theorem jxkc210_0 : jxchkc 210 0 100 = true := by decide +kernel
set_option maxRecDepth 100000 in
theorem jxkc210_100 : jxchkc 210 100 8 = true := by decide +kernel
set_option maxRecDepth 100000 in
theorem jxkc211_0 : jxchkc 211 0 37 = true := by decide +kernel
set_option maxRecDepth 100000 in
theorem jxkc212_0 : jxchkc 212 0 47 = true := by decide +kernel
set_option maxRecDepth 100000 in
theorem jxkc213_0 : jxchkc 213 0 21 = true := by decide +kernel
set_option maxRecDepth 100000 in
theorem jxkc214_0 : jxchkc 214 0 21 = true := by decide +kernel
set_option maxRecDepth 100000 in
theorem jxkc215_0 : jxchkc 215 0 67 = true := by decide +kernel
set_option maxRecDepth 100000 in
theorem jxkc216_0 : jxchkc 216 0 100 = true := by decide +kernel
set_option maxRecDepth 100000 in
theorem jxkc216_100 : jxchkc 216 100 100 = true := by decide +kernel
set_option maxRecDepth 100000 in
theorem jxkc216_200 : jxchkc 216 200 2 = true := by decide +kernel
set_option maxRecDepth 100000 in
theorem jxkc217_0 : jxchkc 217 0 100 = true := by decide +kernel
set_option maxRecDepth 100000 in
theorem jxkc217_100 : jxchkc 217 100 62 = true := by decide +kernel
set_option maxRecDepth 100000 in
theorem jxkc218_0 : jxchkc 218 0 21 = true := by decide +kernel
set_option maxRecDepth 100000 in
theorem jxkc219_0 : jxchkc 219 0 49 = true := by decide +kernel
set_option maxRecDepth 100000 in
theorem jxkc220_0 : jxchkc 220 0 100 = true := by decide +kernel
set_option maxRecDepth 100000 in
theorem jxkc220_100 : jxchkc 220 100 31 = true := by decide +kernel
set_option maxRecDepth 100000 in
theorem jxkc221_0 : jxchkc 221 0 41 = true := by decide +kernel
set_option maxRecDepth 100000 in
theorem jxkc222_0 : jxchkc 222 0 67 = true := by decide +kernel
set_option maxRecDepth 100000 in
theorem jxkc223_0 : jxchkc 223 0 100 = true := by decide +kernel
set_option maxRecDepth 100000 in
theorem jxkc223_100 : jxchkc 223 100 16 = true := by decide +kernel
set_option maxRecDepth 100000 in
theorem jxkc224_0 : jxchkc 224 0 100 = true := by decide +kernel
set_option maxRecDepth 100000 in
theorem jxkc224_100 : jxchkc 224 100 96 = true := by decide +kernel
set_option maxRecDepth 100000 in
theorem jxkc225_0 : jxchkc 225 0 100 = true := by decide +kernel
set_option maxRecDepth 100000 in
theorem jxkc225_100 : jxchkc 225 100 25 = true := by decide +kernel
set_option maxRecDepth 100000 in
theorem jxkc226_0 : jxchkc 226 0 100 = true := by decide +kernel
set_option maxRecDepth 100000 in
theorem jxkc226_100 : jxchkc 226 100 100 = true := by decide +kernel
set_option maxRecDepth 100000 in
theorem jxkc226_200 : jxchkc 226 200 4 = true := by decide +kernel
set_option maxRecDepth 100000 in
theorem jxkc227_0 : jxchkc 227 0 100 = true := by decide +kernel
set_option maxRecDepth 100000 in
theorem jxkc227_100 : jxchkc 227 100 85 = true := by decide +kernel
set_option maxRecDepth 100000 in
theorem jxkc228_0 : jxchkc 228 0 40 = true := by decide +kernel
set_option maxRecDepth 100000 in
theorem jxkc229_0 : jxchkc 229 0 30 = true := by decide +kernel
set_option maxRecDepth 100000 in
theorem jxkc230_0 : jxchkc 230 0 39 = true := by decide +kernel
set_option maxRecDepth 100000 in
theorem jxkc231_0 : jxchkc 231 0 37 = true := by decide +kernel
set_option maxRecDepth 100000 in
theorem jxkc232_0 : jxchkc 232 0 100 = true := by decide +kernel
set_option maxRecDepth 100000 in
theorem jxkc232_100 : jxchkc 232 100 100 = true := by decide +kernel
set_option maxRecDepth 100000 in
theorem jxkc232_200 : jxchkc 232 200 100 = true := by decide +kernel
set_option maxRecDepth 100000 in
theorem jxkc232_300 : jxchkc 232 300 29 = true := by decide +kernel
set_option maxRecDepth 100000 in
theorem jxkc233_0 : jxchkc 233 0 85 = true := by decide +kernel
set_option maxRecDepth 100000 in
theorem jxkc234_0 : jxchkc 234 0 99 = true := by decide +kernel
set_option maxRecDepth 100000 in
theorem jxkc235_0 : jxchkc 235 0 14 = true := by decide +kernel
set_option maxRecDepth 100000 in
theorem jxkc236_0 : jxchkc 236 0 22 = true := by decide +kernel
set_option maxRecDepth 100000 in
theorem jxkc237_0 : jxchkc 237 0 50 = true := by decide +kernel
set_option maxRecDepth 100000 in
theorem jxkc238_0 : jxchkc 238 0 100 = true := by decide +kernel
set_option maxRecDepth 100000 in
theorem jxkc238_100 : jxchkc 238 100 89 = true := by decide +kernel
set_option maxRecDepth 100000 in
theorem jxkc239_0 : jxchkc 239 0 68 = true := by decide +kernel
set_option maxRecDepth 100000 in
theorem jxkc240_0 : jxchkc 240 0 100 = true := by decide +kernel
set_option maxRecDepth 100000 in
theorem jxkc240_100 : jxchkc 240 100 52 = true := by decide +kernel
set_option maxRecDepth 100000 in
theorem jxkc241_0 : jxchkc 241 0 46 = true := by decide +kernel
set_option maxRecDepth 100000 in
theorem jxkc242_0 : jxchkc 242 0 46 = true := by decide +kernel
set_option maxRecDepth 100000 in
theorem jxkc243_0 : jxchkc 243 0 46 = true := by decide +kernel
set_option maxRecDepth 100000 in
theorem jxkc244_0 : jxchkc 244 0 51 = true := by decide +kernel
set_option maxRecDepth 100000 in
theorem jxkc245_0 : jxchkc 245 0 25 = true := by decide +kernel
set_option maxRecDepth 100000 in
theorem jxkc246_0 : jxchkc 246 0 56 = true := by decide +kernel
set_option maxRecDepth 100000 in
theorem jxkc247_0 : jxchkc 247 0 35 = true := by decide +kernel
set_option maxRecDepth 100000 in
theorem jxkc248_0 : jxchkc 248 0 98 = true := by decide +kernel
set_option maxRecDepth 100000 in
theorem jxkc249_0 : jxchkc 249 0 35 = true := by decide +kernel
set_option maxRecDepth 100000 in
theorem jxkc250_0 : jxchkc 250 0 47 = true := by decide +kernel
set_option maxRecDepth 100000 in
theorem jxkc251_0 : jxchkc 251 0 100 = true := by decide +kernel
set_option maxRecDepth 100000 in
theorem jxkc251_100 : jxchkc 251 100 86 = true := by decide +kernel
set_option maxRecDepth 100000 in
theorem jxkc252_0 : jxchkc 252 0 72 = true := by decide +kernel
set_option maxRecDepth 100000 in
theorem jxkc253_0 : jxchkc 253 0 100 = true := by decide +kernel
set_option maxRecDepth 100000 in
theorem jxkc253_100 : jxchkc 253 100 100 = true := by decide +kernel
set_option maxRecDepth 100000 in
theorem jxkc253_200 : jxchkc 253 200 33 = true := by decide +kernel
set_option maxRecDepth 100000 in
theorem jxkc254_0 : jxchkc 254 0 100 = true := by decide +kernel
set_option maxRecDepth 100000 in
theorem jxkc254_100 : jxchkc 254 100 55 = true := by decide +kernel
set_option maxRecDepth 100000 in
theorem jxkc255_0 : jxchkc 255 0 100 = true := by decide +kernel
set_option maxRecDepth 100000 in
theorem jxkc255_100 : jxchkc 255 100 100 = true := by decide +kernel
set_option maxRecDepth 100000 in
theorem jxkc255_200 : jxchkc 255 200 70 = true := by decide +kernel
set_option maxRecDepth 100000 in
theorem jxkc256_0 : jxchkc 256 0 54 = true := by decide +kernel
set_option maxRecDepth 100000 in
theorem jxkc257_0 : jxchkc 257 0 61 = true := by decide +kernel
set_option maxRecDepth 100000 in
theorem jxkc258_0 : jxchkc 258 0 68 = true := by decide +kernel
set_option maxRecDepth 100000 in
theorem jxkc259_0 : jxchkc 259 0 100 = true := by decide +kernel
set_option maxRecDepth 100000 in
theorem jxkc259_100 : jxchkc 259 100 14 = true := by decide +kernel
set_option maxRecDepth 100000 in
theorem jxkc260_0 : jxchkc 260 0 100 = true := by decide +kernel
set_option maxRecDepth 100000 in
theorem jxkc260_100 : jxchkc 260 100 70 = true := by decide +kernel
set_option maxRecDepth 100000 in
theorem jxkc261_0 : jxchkc 261 0 64 = true := by decide +kernel
set_option maxRecDepth 100000 in
theorem jxkc262_0 : jxchkc 262 0 95 = true := by decide +kernel
set_option maxRecDepth 100000 in
theorem jxkc263_0 : jxchkc 263 0 34 = true := by decide +kernel
set_option maxRecDepth 100000 in
theorem jxkc264_0 : jxchkc 264 0 35 = true := by decide +kernel
set_option maxRecDepth 100000 in
theorem jxkc265_0 : jxchkc 265 0 61 = true := by decide +kernel
set_option maxRecDepth 100000 in
theorem jxkc266_0 : jxchkc 266 0 77 = true := by decide +kernel
set_option maxRecDepth 100000 in
theorem jxkc267_0 : jxchkc 267 0 100 = true := by decide +kernel
set_option maxRecDepth 100000 in
theorem jxkc267_100 : jxchkc 267 100 30 = true := by decide +kernel
set_option maxRecDepth 100000 in
theorem jxkc268_0 : jxchkc 268 0 26 = true := by decide +kernel
set_option maxRecDepth 100000 in
theorem jxkc269_0 : jxchkc 269 0 18 = true := by decide +kernel
set_option maxRecDepth 100000 in
theorem jxkc270_0 : jxchkc 270 0 29 = true := by decide +kernel
set_option maxRecDepth 100000 in
theorem jxkc271_0 : jxchkc 271 0 100 = true := by decide +kernel
set_option maxRecDepth 100000 in
theorem jxkc271_100 : jxchkc 271 100 100 = true := by decide +kernel
set_option maxRecDepth 100000 in
theorem jxkc271_200 : jxchkc 271 200 39 = true := by decide +kernel
set_option maxRecDepth 100000 in
theorem jxkc272_0 : jxchkc 272 0 100 = true := by decide +kernel
set_option maxRecDepth 100000 in
theorem jxkc272_100 : jxchkc 272 100 100 = true := by decide +kernel
set_option maxRecDepth 100000 in
theorem jxkc272_200 : jxchkc 272 200 3 = true := by decide +kernel
set_option maxRecDepth 100000 in
theorem jxkc273_0 : jxchkc 273 0 45 = true := by decide +kernel
set_option maxRecDepth 100000 in
theorem jxkc274_0 : jxchkc 274 0 100 = true := by decide +kernel
set_option maxRecDepth 100000 in
theorem jxkc274_100 : jxchkc 274 100 73 = true := by decide +kernel
set_option maxRecDepth 100000 in
theorem jxkc275_0 : jxchkc 275 0 40 = true := by decide +kernel
set_option maxRecDepth 100000 in
theorem jxkc276_0 : jxchkc 276 0 50 = true := by decide +kernel
set_option maxRecDepth 100000 in
theorem jxkc277_0 : jxchkc 277 0 70 = true := by decide +kernel
set_option maxRecDepth 100000 in
theorem jxkc278_0 : jxchkc 278 0 46 = true := by decide +kernel
set_option maxRecDepth 100000 in
theorem jxkc279_0 : jxchkc 279 0 100 = true := by decide +kernel
set_option maxRecDepth 100000 in
theorem jxkc279_100 : jxchkc 279 100 55 = true := by decide +kernel
set_option maxRecDepth 100000 in
theorem jxkc280_0 : jxchkc 280 0 89 = true := by decide +kernel
set_option maxRecDepth 100000 in
theorem jxkc281_0 : jxchkc 281 0 100 = true := by decide +kernel
set_option maxRecDepth 100000 in
theorem jxkc281_100 : jxchkc 281 100 73 = true := by decide +kernel
set_option maxRecDepth 100000 in
theorem jxkc282_0 : jxchkc 282 0 100 = true := by decide +kernel
set_option maxRecDepth 100000 in
theorem jxkc282_100 : jxchkc 282 100 100 = true := by decide +kernel
set_option maxRecDepth 100000 in
theorem jxkc282_200 : jxchkc 282 200 2 = true := by decide +kernel
set_option maxRecDepth 100000 in
theorem jxkc283_0 : jxchkc 283 0 100 = true := by decide +kernel
set_option maxRecDepth 100000 in
theorem jxkc283_100 : jxchkc 283 100 85 = true := by decide +kernel
set_option maxRecDepth 100000 in
theorem jxkc284_0 : jxchkc 284 0 47 = true := by decide +kernel
set_option maxRecDepth 100000 in
theorem jxkc285_0 : jxchkc 285 0 49 = true := by decide +kernel
set_option maxRecDepth 100000 in
theorem jxkc286_0 : jxchkc 286 0 100 = true := by decide +kernel
set_option maxRecDepth 100000 in
theorem jxkc286_100 : jxchkc 286 100 57 = true := by decide +kernel
set_option maxRecDepth 100000 in
theorem jxkc287_0 : jxchkc 287 0 100 = true := by decide +kernel
set_option maxRecDepth 100000 in
theorem jxkc287_100 : jxchkc 287 100 100 = true := by decide +kernel
set_option maxRecDepth 100000 in
theorem jxkc287_200 : jxchkc 287 200 57 = true := by decide +kernel
set_option maxRecDepth 100000 in
theorem jxkc288_0 : jxchkc 288 0 28 = true := by decide +kernel
set_option maxRecDepth 100000 in
theorem jxkc289_0 : jxchkc 289 0 100 = true := by decide +kernel
set_option maxRecDepth 100000 in
theorem jxkc289_100 : jxchkc 289 100 100 = true := by decide +kernel
set_option maxRecDepth 100000 in
theorem jxkc289_200 : jxchkc 289 200 3 = true := by decide +kernel
set_option maxRecDepth 100000 in
theorem jxkc290_0 : jxchkc 290 0 53 = true := by decide +kernel
set_option maxRecDepth 100000 in
theorem jxkc291_0 : jxchkc 291 0 11 = true := by decide +kernel
set_option maxRecDepth 100000 in
theorem jxkc292_0 : jxchkc 292 0 11 = true := by decide +kernel
set_option maxRecDepth 100000 in
theorem jxkc293_0 : jxchkc 293 0 12 = true := by decide +kernel
set_option maxRecDepth 100000 in
theorem jxkc294_0 : jxchkc 294 0 11 = true := by decide +kernel
set_option maxRecDepth 100000 in
theorem jxkc295_0 : jxchkc 295 0 25 = true := by decide +kernel
set_option maxRecDepth 100000 in
theorem jxkc296_0 : jxchkc 296 0 15 = true := by decide +kernel
set_option maxRecDepth 100000 in
theorem jxkc297_0 : jxchkc 297 0 19 = true := by decide +kernel
set_option maxRecDepth 100000 in
theorem jxkc298_0 : jxchkc 298 0 10 = true := by decide +kernel
set_option maxRecDepth 100000 in
theorem jxkc299_0 : jxchkc 299 0 15 = true := by decide +kernel
set_option maxRecDepth 100000 in
theorem jxkc300_0 : jxchkc 300 0 60 = true := by decide +kernel
set_option maxRecDepth 100000 in
theorem jxkc301_0 : jxchkc 301 0 5 = true := by decide +kernel
set_option maxRecDepth 100000 in
theorem jxkc302_0 : jxchkc 302 0 11 = true := by decide +kernel
set_option maxRecDepth 100000 in
theorem jxkc303_0 : jxchkc 303 0 9 = true := by decide +kernel
set_option maxRecDepth 100000 in
theorem jxkc304_0 : jxchkc 304 0 18 = true := by decide +kernel
set_option maxRecDepth 100000 in
theorem jxkc305_0 : jxchkc 305 0 100 = true := by decide +kernel
set_option maxRecDepth 100000 in
theorem jxkc305_100 : jxchkc 305 100 100 = true := by decide +kernel
set_option maxRecDepth 100000 in
theorem jxkc305_200 : jxchkc 305 200 100 = true := by decide +kernel
set_option maxRecDepth 100000 in
theorem jxkc305_300 : jxchkc 305 300 100 = true := by decide +kernel
set_option maxRecDepth 100000 in
theorem jxkc305_400 : jxchkc 305 400 100 = true := by decide +kernel
set_option maxRecDepth 100000 in
theorem jxkc305_500 : jxchkc 305 500 100 = true := by decide +kernel
set_option maxRecDepth 100000 in
theorem jxkc305_600 : jxchkc 305 600 100 = true := by decide +kernel
set_option maxRecDepth 100000 in
theorem jxkc305_700 : jxchkc 305 700 100 = true := by decide +kernel
set_option maxRecDepth 100000 in
theorem jxkc305_800 : jxchkc 305 800 100 = true := by decide +kernel
set_option maxRecDepth 100000 in
theorem jxkc305_900 : jxchkc 305 900 100 = true := by decide +kernel
set_option maxRecDepth 100000 in
theorem jxkc305_1000 : jxchkc 305 1000 100 = true := by decide +kernel
set_option maxRecDepth 100000 in
theorem jxkc305_1100 : jxchkc 305 1100 97 = true := by decide +kernel
def jxlen : List Nat := [125, 5, 5, 25, 18, 96, 13, 13, 13, 13, 13, 13, 24, 16, 32, 25, 82, 13, 62, 123, 52, 73, 31, 146, 46, 5, 5, 5, 66, 60, 11, 11, 11, 64, 38, 57, 52, 100, 72, 8, 41, 92, 24, 30, 69, 111, 81, 42, 8, 58, 5, 24, 23, 31, 74, 16, 19, 13, 19, 13, 19, 52, 63, 5, 5, 24, 83, 12, 30, 30, 23, 24, 48, 13, 13, 19, 13, 13, 13, 97, 29, 31, 25, 62, 143, 20, 62, 118, 9, 27, 53, 93, 7, 13, 78, 166, 90, 48, 7, 7, 7, 7, 7, 89, 45, 76, 59, 53, 98, 105, 11, 11, 11, 11, 11, 11, 29, 5, 18, 49, 18, 15, 13, 8, 20, 10, 5, 17, 107, 49, 140, 39, 62, 5, 15, 109, 153, 52, 92, 52, 58, 77, 53, 44, 44, 129, 76, 103, 52, 36, 196, 167, 33, 243, 24, 71, 58, 68, 80, 107, 64, 27, 44, 51, 36, 74, 62, 72, 190, 67, 36, 64, 71, 44, 69, 93, 49, 14, 13, 109, 38, 211, 28, 69, 34, 23, 8, 10, 160, 25, 98, 42, 67, 11, 112, 9, 53, 196, 50, 16, 9, 8, 23, 1079, 16, 9, 8, 12, 23, 71, 108, 37, 47, 21, 21, 67, 202, 162, 21, 49, 131, 41, 67, 116, 196, 125, 204, 185, 40, 30, 39, 37, 329, 85, 99, 14, 22, 50, 189, 68, 152, 46, 46, 46, 51, 25, 56, 35, 98, 35, 47, 186, 72, 233, 155, 270, 54, 61, 68, 114, 170, 64, 95, 34, 35, 61, 77, 130, 26, 18, 29, 239, 203, 45, 173, 40, 50, 70, 46, 155, 89, 173, 202, 185, 47, 49, 157, 257, 28, 203, 53, 11, 11, 12, 11, 25, 15, 19, 10, 15, 60, 5, 11, 9, 18, 1197]
theorem jxchkc_at {y a n pc : Nat} (h : jxchkc y a n = true) (h1 : a ≤ pc) (h2 : pc < a + n) : jxchkp y pc = true := by
  have h3 := List.all_eq_true.mp h (pc - a) (List.mem_range.mpr (by omega))
  rw [show a + (pc - a) = pc by omega] at h3
  exact h3
theorem jxkl0 : ∀ pc, pc < 125 → jxchkp 0 pc = true := fun pc h => (Nat.lt_or_ge pc 100).elim (fun h9 => jxchkc_at jxkc0_0 (by omega) (by omega)) (fun h9 => jxchkc_at jxkc0_100 (by omega) (by omega))
theorem jxkl1 : ∀ pc, pc < 5 → jxchkp 1 pc = true := fun pc h => jxchkc_at jxkc1_0 (by omega) (by omega)
theorem jxkl2 : ∀ pc, pc < 5 → jxchkp 2 pc = true := fun pc h => jxchkc_at jxkc2_0 (by omega) (by omega)
theorem jxkl3 : ∀ pc, pc < 25 → jxchkp 3 pc = true := fun pc h => jxchkc_at jxkc3_0 (by omega) (by omega)
theorem jxkl4 : ∀ pc, pc < 18 → jxchkp 4 pc = true := fun pc h => jxchkc_at jxkc4_0 (by omega) (by omega)
theorem jxkl5 : ∀ pc, pc < 96 → jxchkp 5 pc = true := fun pc h => jxchkc_at jxkc5_0 (by omega) (by omega)
theorem jxkl6 : ∀ pc, pc < 13 → jxchkp 6 pc = true := fun pc h => jxchkc_at jxkc6_0 (by omega) (by omega)
theorem jxkl7 : ∀ pc, pc < 13 → jxchkp 7 pc = true := fun pc h => jxchkc_at jxkc7_0 (by omega) (by omega)
theorem jxkl8 : ∀ pc, pc < 13 → jxchkp 8 pc = true := fun pc h => jxchkc_at jxkc8_0 (by omega) (by omega)
theorem jxkl9 : ∀ pc, pc < 13 → jxchkp 9 pc = true := fun pc h => jxchkc_at jxkc9_0 (by omega) (by omega)
theorem jxkl10 : ∀ pc, pc < 13 → jxchkp 10 pc = true := fun pc h => jxchkc_at jxkc10_0 (by omega) (by omega)
theorem jxkl11 : ∀ pc, pc < 13 → jxchkp 11 pc = true := fun pc h => jxchkc_at jxkc11_0 (by omega) (by omega)
theorem jxkl12 : ∀ pc, pc < 24 → jxchkp 12 pc = true := fun pc h => jxchkc_at jxkc12_0 (by omega) (by omega)
theorem jxkl13 : ∀ pc, pc < 16 → jxchkp 13 pc = true := fun pc h => jxchkc_at jxkc13_0 (by omega) (by omega)
theorem jxkl14 : ∀ pc, pc < 32 → jxchkp 14 pc = true := fun pc h => jxchkc_at jxkc14_0 (by omega) (by omega)
theorem jxkl15 : ∀ pc, pc < 25 → jxchkp 15 pc = true := fun pc h => jxchkc_at jxkc15_0 (by omega) (by omega)
theorem jxkl16 : ∀ pc, pc < 82 → jxchkp 16 pc = true := fun pc h => jxchkc_at jxkc16_0 (by omega) (by omega)
theorem jxkl17 : ∀ pc, pc < 13 → jxchkp 17 pc = true := fun pc h => jxchkc_at jxkc17_0 (by omega) (by omega)
theorem jxkl18 : ∀ pc, pc < 62 → jxchkp 18 pc = true := fun pc h => jxchkc_at jxkc18_0 (by omega) (by omega)
theorem jxkl19 : ∀ pc, pc < 123 → jxchkp 19 pc = true := fun pc h => (Nat.lt_or_ge pc 100).elim (fun h9 => jxchkc_at jxkc19_0 (by omega) (by omega)) (fun h9 => jxchkc_at jxkc19_100 (by omega) (by omega))
theorem jxkl20 : ∀ pc, pc < 52 → jxchkp 20 pc = true := fun pc h => jxchkc_at jxkc20_0 (by omega) (by omega)
theorem jxkl21 : ∀ pc, pc < 73 → jxchkp 21 pc = true := fun pc h => jxchkc_at jxkc21_0 (by omega) (by omega)
theorem jxkl22 : ∀ pc, pc < 31 → jxchkp 22 pc = true := fun pc h => jxchkc_at jxkc22_0 (by omega) (by omega)
theorem jxkl23 : ∀ pc, pc < 146 → jxchkp 23 pc = true := fun pc h => (Nat.lt_or_ge pc 100).elim (fun h9 => jxchkc_at jxkc23_0 (by omega) (by omega)) (fun h9 => jxchkc_at jxkc23_100 (by omega) (by omega))
theorem jxkl24 : ∀ pc, pc < 46 → jxchkp 24 pc = true := fun pc h => jxchkc_at jxkc24_0 (by omega) (by omega)
theorem jxkl25 : ∀ pc, pc < 5 → jxchkp 25 pc = true := fun pc h => jxchkc_at jxkc25_0 (by omega) (by omega)
theorem jxkl26 : ∀ pc, pc < 5 → jxchkp 26 pc = true := fun pc h => jxchkc_at jxkc26_0 (by omega) (by omega)
theorem jxkl27 : ∀ pc, pc < 5 → jxchkp 27 pc = true := fun pc h => jxchkc_at jxkc27_0 (by omega) (by omega)
theorem jxkl28 : ∀ pc, pc < 66 → jxchkp 28 pc = true := fun pc h => jxchkc_at jxkc28_0 (by omega) (by omega)
theorem jxkl29 : ∀ pc, pc < 60 → jxchkp 29 pc = true := fun pc h => jxchkc_at jxkc29_0 (by omega) (by omega)
theorem jxkl30 : ∀ pc, pc < 11 → jxchkp 30 pc = true := fun pc h => jxchkc_at jxkc30_0 (by omega) (by omega)
theorem jxkl31 : ∀ pc, pc < 11 → jxchkp 31 pc = true := fun pc h => jxchkc_at jxkc31_0 (by omega) (by omega)
theorem jxkl32 : ∀ pc, pc < 11 → jxchkp 32 pc = true := fun pc h => jxchkc_at jxkc32_0 (by omega) (by omega)
theorem jxkl33 : ∀ pc, pc < 64 → jxchkp 33 pc = true := fun pc h => jxchkc_at jxkc33_0 (by omega) (by omega)
theorem jxkl34 : ∀ pc, pc < 38 → jxchkp 34 pc = true := fun pc h => jxchkc_at jxkc34_0 (by omega) (by omega)
theorem jxkl35 : ∀ pc, pc < 57 → jxchkp 35 pc = true := fun pc h => jxchkc_at jxkc35_0 (by omega) (by omega)
theorem jxkl36 : ∀ pc, pc < 52 → jxchkp 36 pc = true := fun pc h => jxchkc_at jxkc36_0 (by omega) (by omega)
theorem jxkl37 : ∀ pc, pc < 100 → jxchkp 37 pc = true := fun pc h => jxchkc_at jxkc37_0 (by omega) (by omega)
theorem jxkl38 : ∀ pc, pc < 72 → jxchkp 38 pc = true := fun pc h => jxchkc_at jxkc38_0 (by omega) (by omega)
theorem jxkl39 : ∀ pc, pc < 8 → jxchkp 39 pc = true := fun pc h => jxchkc_at jxkc39_0 (by omega) (by omega)
theorem jxkl40 : ∀ pc, pc < 41 → jxchkp 40 pc = true := fun pc h => jxchkc_at jxkc40_0 (by omega) (by omega)
theorem jxkl41 : ∀ pc, pc < 92 → jxchkp 41 pc = true := fun pc h => jxchkc_at jxkc41_0 (by omega) (by omega)
theorem jxkl42 : ∀ pc, pc < 24 → jxchkp 42 pc = true := fun pc h => jxchkc_at jxkc42_0 (by omega) (by omega)
theorem jxkl43 : ∀ pc, pc < 30 → jxchkp 43 pc = true := fun pc h => jxchkc_at jxkc43_0 (by omega) (by omega)
theorem jxkl44 : ∀ pc, pc < 69 → jxchkp 44 pc = true := fun pc h => jxchkc_at jxkc44_0 (by omega) (by omega)
theorem jxkl45 : ∀ pc, pc < 111 → jxchkp 45 pc = true := fun pc h => (Nat.lt_or_ge pc 100).elim (fun h9 => jxchkc_at jxkc45_0 (by omega) (by omega)) (fun h9 => jxchkc_at jxkc45_100 (by omega) (by omega))
theorem jxkl46 : ∀ pc, pc < 81 → jxchkp 46 pc = true := fun pc h => jxchkc_at jxkc46_0 (by omega) (by omega)
theorem jxkl47 : ∀ pc, pc < 42 → jxchkp 47 pc = true := fun pc h => jxchkc_at jxkc47_0 (by omega) (by omega)
theorem jxkl48 : ∀ pc, pc < 8 → jxchkp 48 pc = true := fun pc h => jxchkc_at jxkc48_0 (by omega) (by omega)
theorem jxkl49 : ∀ pc, pc < 58 → jxchkp 49 pc = true := fun pc h => jxchkc_at jxkc49_0 (by omega) (by omega)
theorem jxkl50 : ∀ pc, pc < 5 → jxchkp 50 pc = true := fun pc h => jxchkc_at jxkc50_0 (by omega) (by omega)
theorem jxkl51 : ∀ pc, pc < 24 → jxchkp 51 pc = true := fun pc h => jxchkc_at jxkc51_0 (by omega) (by omega)
theorem jxkl52 : ∀ pc, pc < 23 → jxchkp 52 pc = true := fun pc h => jxchkc_at jxkc52_0 (by omega) (by omega)
theorem jxkl53 : ∀ pc, pc < 31 → jxchkp 53 pc = true := fun pc h => jxchkc_at jxkc53_0 (by omega) (by omega)
theorem jxkl54 : ∀ pc, pc < 74 → jxchkp 54 pc = true := fun pc h => jxchkc_at jxkc54_0 (by omega) (by omega)
theorem jxkl55 : ∀ pc, pc < 16 → jxchkp 55 pc = true := fun pc h => jxchkc_at jxkc55_0 (by omega) (by omega)
theorem jxkl56 : ∀ pc, pc < 19 → jxchkp 56 pc = true := fun pc h => jxchkc_at jxkc56_0 (by omega) (by omega)
theorem jxkl57 : ∀ pc, pc < 13 → jxchkp 57 pc = true := fun pc h => jxchkc_at jxkc57_0 (by omega) (by omega)
theorem jxkl58 : ∀ pc, pc < 19 → jxchkp 58 pc = true := fun pc h => jxchkc_at jxkc58_0 (by omega) (by omega)
theorem jxkl59 : ∀ pc, pc < 13 → jxchkp 59 pc = true := fun pc h => jxchkc_at jxkc59_0 (by omega) (by omega)
theorem jxkl60 : ∀ pc, pc < 19 → jxchkp 60 pc = true := fun pc h => jxchkc_at jxkc60_0 (by omega) (by omega)
theorem jxkl61 : ∀ pc, pc < 52 → jxchkp 61 pc = true := fun pc h => jxchkc_at jxkc61_0 (by omega) (by omega)
theorem jxkl62 : ∀ pc, pc < 63 → jxchkp 62 pc = true := fun pc h => jxchkc_at jxkc62_0 (by omega) (by omega)
theorem jxkl63 : ∀ pc, pc < 5 → jxchkp 63 pc = true := fun pc h => jxchkc_at jxkc63_0 (by omega) (by omega)
theorem jxkl64 : ∀ pc, pc < 5 → jxchkp 64 pc = true := fun pc h => jxchkc_at jxkc64_0 (by omega) (by omega)
theorem jxkl65 : ∀ pc, pc < 24 → jxchkp 65 pc = true := fun pc h => jxchkc_at jxkc65_0 (by omega) (by omega)
theorem jxkl66 : ∀ pc, pc < 83 → jxchkp 66 pc = true := fun pc h => jxchkc_at jxkc66_0 (by omega) (by omega)
theorem jxkl67 : ∀ pc, pc < 12 → jxchkp 67 pc = true := fun pc h => jxchkc_at jxkc67_0 (by omega) (by omega)
theorem jxkl68 : ∀ pc, pc < 30 → jxchkp 68 pc = true := fun pc h => jxchkc_at jxkc68_0 (by omega) (by omega)
theorem jxkl69 : ∀ pc, pc < 30 → jxchkp 69 pc = true := fun pc h => jxchkc_at jxkc69_0 (by omega) (by omega)
theorem jxkl70 : ∀ pc, pc < 23 → jxchkp 70 pc = true := fun pc h => jxchkc_at jxkc70_0 (by omega) (by omega)
theorem jxkl71 : ∀ pc, pc < 24 → jxchkp 71 pc = true := fun pc h => jxchkc_at jxkc71_0 (by omega) (by omega)
theorem jxkl72 : ∀ pc, pc < 48 → jxchkp 72 pc = true := fun pc h => jxchkc_at jxkc72_0 (by omega) (by omega)
theorem jxkl73 : ∀ pc, pc < 13 → jxchkp 73 pc = true := fun pc h => jxchkc_at jxkc73_0 (by omega) (by omega)
theorem jxkl74 : ∀ pc, pc < 13 → jxchkp 74 pc = true := fun pc h => jxchkc_at jxkc74_0 (by omega) (by omega)
theorem jxkl75 : ∀ pc, pc < 19 → jxchkp 75 pc = true := fun pc h => jxchkc_at jxkc75_0 (by omega) (by omega)
theorem jxkl76 : ∀ pc, pc < 13 → jxchkp 76 pc = true := fun pc h => jxchkc_at jxkc76_0 (by omega) (by omega)
theorem jxkl77 : ∀ pc, pc < 13 → jxchkp 77 pc = true := fun pc h => jxchkc_at jxkc77_0 (by omega) (by omega)
theorem jxkl78 : ∀ pc, pc < 13 → jxchkp 78 pc = true := fun pc h => jxchkc_at jxkc78_0 (by omega) (by omega)
theorem jxkl79 : ∀ pc, pc < 97 → jxchkp 79 pc = true := fun pc h => jxchkc_at jxkc79_0 (by omega) (by omega)
theorem jxkl80 : ∀ pc, pc < 29 → jxchkp 80 pc = true := fun pc h => jxchkc_at jxkc80_0 (by omega) (by omega)
theorem jxkl81 : ∀ pc, pc < 31 → jxchkp 81 pc = true := fun pc h => jxchkc_at jxkc81_0 (by omega) (by omega)
theorem jxkl82 : ∀ pc, pc < 25 → jxchkp 82 pc = true := fun pc h => jxchkc_at jxkc82_0 (by omega) (by omega)
theorem jxkl83 : ∀ pc, pc < 62 → jxchkp 83 pc = true := fun pc h => jxchkc_at jxkc83_0 (by omega) (by omega)
theorem jxkl84 : ∀ pc, pc < 143 → jxchkp 84 pc = true := fun pc h => (Nat.lt_or_ge pc 100).elim (fun h9 => jxchkc_at jxkc84_0 (by omega) (by omega)) (fun h9 => jxchkc_at jxkc84_100 (by omega) (by omega))
theorem jxkl85 : ∀ pc, pc < 20 → jxchkp 85 pc = true := fun pc h => jxchkc_at jxkc85_0 (by omega) (by omega)
theorem jxkl86 : ∀ pc, pc < 62 → jxchkp 86 pc = true := fun pc h => jxchkc_at jxkc86_0 (by omega) (by omega)
theorem jxkl87 : ∀ pc, pc < 118 → jxchkp 87 pc = true := fun pc h => (Nat.lt_or_ge pc 100).elim (fun h9 => jxchkc_at jxkc87_0 (by omega) (by omega)) (fun h9 => jxchkc_at jxkc87_100 (by omega) (by omega))
theorem jxkl88 : ∀ pc, pc < 9 → jxchkp 88 pc = true := fun pc h => jxchkc_at jxkc88_0 (by omega) (by omega)
theorem jxkl89 : ∀ pc, pc < 27 → jxchkp 89 pc = true := fun pc h => jxchkc_at jxkc89_0 (by omega) (by omega)
theorem jxkl90 : ∀ pc, pc < 53 → jxchkp 90 pc = true := fun pc h => jxchkc_at jxkc90_0 (by omega) (by omega)
theorem jxkl91 : ∀ pc, pc < 93 → jxchkp 91 pc = true := fun pc h => jxchkc_at jxkc91_0 (by omega) (by omega)
theorem jxkl92 : ∀ pc, pc < 7 → jxchkp 92 pc = true := fun pc h => jxchkc_at jxkc92_0 (by omega) (by omega)
theorem jxkl93 : ∀ pc, pc < 13 → jxchkp 93 pc = true := fun pc h => jxchkc_at jxkc93_0 (by omega) (by omega)
theorem jxkl94 : ∀ pc, pc < 78 → jxchkp 94 pc = true := fun pc h => jxchkc_at jxkc94_0 (by omega) (by omega)
theorem jxkl95 : ∀ pc, pc < 166 → jxchkp 95 pc = true := fun pc h => (Nat.lt_or_ge pc 100).elim (fun h9 => jxchkc_at jxkc95_0 (by omega) (by omega)) (fun h9 => jxchkc_at jxkc95_100 (by omega) (by omega))
theorem jxkl96 : ∀ pc, pc < 90 → jxchkp 96 pc = true := fun pc h => jxchkc_at jxkc96_0 (by omega) (by omega)
theorem jxkl97 : ∀ pc, pc < 48 → jxchkp 97 pc = true := fun pc h => jxchkc_at jxkc97_0 (by omega) (by omega)
theorem jxkl98 : ∀ pc, pc < 7 → jxchkp 98 pc = true := fun pc h => jxchkc_at jxkc98_0 (by omega) (by omega)
theorem jxkl99 : ∀ pc, pc < 7 → jxchkp 99 pc = true := fun pc h => jxchkc_at jxkc99_0 (by omega) (by omega)
theorem jxkl100 : ∀ pc, pc < 7 → jxchkp 100 pc = true := fun pc h => jxchkc_at jxkc100_0 (by omega) (by omega)
theorem jxkl101 : ∀ pc, pc < 7 → jxchkp 101 pc = true := fun pc h => jxchkc_at jxkc101_0 (by omega) (by omega)
theorem jxkl102 : ∀ pc, pc < 7 → jxchkp 102 pc = true := fun pc h => jxchkc_at jxkc102_0 (by omega) (by omega)
theorem jxkl103 : ∀ pc, pc < 89 → jxchkp 103 pc = true := fun pc h => jxchkc_at jxkc103_0 (by omega) (by omega)
theorem jxkl104 : ∀ pc, pc < 45 → jxchkp 104 pc = true := fun pc h => jxchkc_at jxkc104_0 (by omega) (by omega)
theorem jxkl105 : ∀ pc, pc < 76 → jxchkp 105 pc = true := fun pc h => jxchkc_at jxkc105_0 (by omega) (by omega)
theorem jxkl106 : ∀ pc, pc < 59 → jxchkp 106 pc = true := fun pc h => jxchkc_at jxkc106_0 (by omega) (by omega)
theorem jxkl107 : ∀ pc, pc < 53 → jxchkp 107 pc = true := fun pc h => jxchkc_at jxkc107_0 (by omega) (by omega)
theorem jxkl108 : ∀ pc, pc < 98 → jxchkp 108 pc = true := fun pc h => jxchkc_at jxkc108_0 (by omega) (by omega)
theorem jxkl109 : ∀ pc, pc < 105 → jxchkp 109 pc = true := fun pc h => (Nat.lt_or_ge pc 100).elim (fun h9 => jxchkc_at jxkc109_0 (by omega) (by omega)) (fun h9 => jxchkc_at jxkc109_100 (by omega) (by omega))
theorem jxkl110 : ∀ pc, pc < 11 → jxchkp 110 pc = true := fun pc h => jxchkc_at jxkc110_0 (by omega) (by omega)
theorem jxkl111 : ∀ pc, pc < 11 → jxchkp 111 pc = true := fun pc h => jxchkc_at jxkc111_0 (by omega) (by omega)
theorem jxkl112 : ∀ pc, pc < 11 → jxchkp 112 pc = true := fun pc h => jxchkc_at jxkc112_0 (by omega) (by omega)
theorem jxkl113 : ∀ pc, pc < 11 → jxchkp 113 pc = true := fun pc h => jxchkc_at jxkc113_0 (by omega) (by omega)
theorem jxkl114 : ∀ pc, pc < 11 → jxchkp 114 pc = true := fun pc h => jxchkc_at jxkc114_0 (by omega) (by omega)
theorem jxkl115 : ∀ pc, pc < 11 → jxchkp 115 pc = true := fun pc h => jxchkc_at jxkc115_0 (by omega) (by omega)
theorem jxkl116 : ∀ pc, pc < 29 → jxchkp 116 pc = true := fun pc h => jxchkc_at jxkc116_0 (by omega) (by omega)
theorem jxkl117 : ∀ pc, pc < 5 → jxchkp 117 pc = true := fun pc h => jxchkc_at jxkc117_0 (by omega) (by omega)
theorem jxkl118 : ∀ pc, pc < 18 → jxchkp 118 pc = true := fun pc h => jxchkc_at jxkc118_0 (by omega) (by omega)
theorem jxkl119 : ∀ pc, pc < 49 → jxchkp 119 pc = true := fun pc h => jxchkc_at jxkc119_0 (by omega) (by omega)
theorem jxkl120 : ∀ pc, pc < 18 → jxchkp 120 pc = true := fun pc h => jxchkc_at jxkc120_0 (by omega) (by omega)
theorem jxkl121 : ∀ pc, pc < 15 → jxchkp 121 pc = true := fun pc h => jxchkc_at jxkc121_0 (by omega) (by omega)
theorem jxkl122 : ∀ pc, pc < 13 → jxchkp 122 pc = true := fun pc h => jxchkc_at jxkc122_0 (by omega) (by omega)
theorem jxkl123 : ∀ pc, pc < 8 → jxchkp 123 pc = true := fun pc h => jxchkc_at jxkc123_0 (by omega) (by omega)
theorem jxkl124 : ∀ pc, pc < 20 → jxchkp 124 pc = true := fun pc h => jxchkc_at jxkc124_0 (by omega) (by omega)
theorem jxkl125 : ∀ pc, pc < 10 → jxchkp 125 pc = true := fun pc h => jxchkc_at jxkc125_0 (by omega) (by omega)
theorem jxkl126 : ∀ pc, pc < 5 → jxchkp 126 pc = true := fun pc h => jxchkc_at jxkc126_0 (by omega) (by omega)
theorem jxkl127 : ∀ pc, pc < 17 → jxchkp 127 pc = true := fun pc h => jxchkc_at jxkc127_0 (by omega) (by omega)
theorem jxkl128 : ∀ pc, pc < 107 → jxchkp 128 pc = true := fun pc h => (Nat.lt_or_ge pc 100).elim (fun h9 => jxchkc_at jxkc128_0 (by omega) (by omega)) (fun h9 => jxchkc_at jxkc128_100 (by omega) (by omega))
theorem jxkl129 : ∀ pc, pc < 49 → jxchkp 129 pc = true := fun pc h => jxchkc_at jxkc129_0 (by omega) (by omega)
theorem jxkl130 : ∀ pc, pc < 140 → jxchkp 130 pc = true := fun pc h => (Nat.lt_or_ge pc 100).elim (fun h9 => jxchkc_at jxkc130_0 (by omega) (by omega)) (fun h9 => jxchkc_at jxkc130_100 (by omega) (by omega))
theorem jxkl131 : ∀ pc, pc < 39 → jxchkp 131 pc = true := fun pc h => jxchkc_at jxkc131_0 (by omega) (by omega)
theorem jxkl132 : ∀ pc, pc < 62 → jxchkp 132 pc = true := fun pc h => jxchkc_at jxkc132_0 (by omega) (by omega)
theorem jxkl133 : ∀ pc, pc < 5 → jxchkp 133 pc = true := fun pc h => jxchkc_at jxkc133_0 (by omega) (by omega)
theorem jxkl134 : ∀ pc, pc < 15 → jxchkp 134 pc = true := fun pc h => jxchkc_at jxkc134_0 (by omega) (by omega)
theorem jxkl135 : ∀ pc, pc < 109 → jxchkp 135 pc = true := fun pc h => (Nat.lt_or_ge pc 100).elim (fun h9 => jxchkc_at jxkc135_0 (by omega) (by omega)) (fun h9 => jxchkc_at jxkc135_100 (by omega) (by omega))
theorem jxkl136 : ∀ pc, pc < 153 → jxchkp 136 pc = true := fun pc h => (Nat.lt_or_ge pc 100).elim (fun h9 => jxchkc_at jxkc136_0 (by omega) (by omega)) (fun h9 => jxchkc_at jxkc136_100 (by omega) (by omega))
theorem jxkl137 : ∀ pc, pc < 52 → jxchkp 137 pc = true := fun pc h => jxchkc_at jxkc137_0 (by omega) (by omega)
theorem jxkl138 : ∀ pc, pc < 92 → jxchkp 138 pc = true := fun pc h => jxchkc_at jxkc138_0 (by omega) (by omega)
theorem jxkl139 : ∀ pc, pc < 52 → jxchkp 139 pc = true := fun pc h => jxchkc_at jxkc139_0 (by omega) (by omega)
theorem jxkl140 : ∀ pc, pc < 58 → jxchkp 140 pc = true := fun pc h => jxchkc_at jxkc140_0 (by omega) (by omega)
theorem jxkl141 : ∀ pc, pc < 77 → jxchkp 141 pc = true := fun pc h => jxchkc_at jxkc141_0 (by omega) (by omega)
theorem jxkl142 : ∀ pc, pc < 53 → jxchkp 142 pc = true := fun pc h => jxchkc_at jxkc142_0 (by omega) (by omega)
theorem jxkl143 : ∀ pc, pc < 44 → jxchkp 143 pc = true := fun pc h => jxchkc_at jxkc143_0 (by omega) (by omega)
theorem jxkl144 : ∀ pc, pc < 44 → jxchkp 144 pc = true := fun pc h => jxchkc_at jxkc144_0 (by omega) (by omega)
theorem jxkl145 : ∀ pc, pc < 129 → jxchkp 145 pc = true := fun pc h => (Nat.lt_or_ge pc 100).elim (fun h9 => jxchkc_at jxkc145_0 (by omega) (by omega)) (fun h9 => jxchkc_at jxkc145_100 (by omega) (by omega))
theorem jxkl146 : ∀ pc, pc < 76 → jxchkp 146 pc = true := fun pc h => jxchkc_at jxkc146_0 (by omega) (by omega)
theorem jxkl147 : ∀ pc, pc < 103 → jxchkp 147 pc = true := fun pc h => (Nat.lt_or_ge pc 100).elim (fun h9 => jxchkc_at jxkc147_0 (by omega) (by omega)) (fun h9 => jxchkc_at jxkc147_100 (by omega) (by omega))
theorem jxkl148 : ∀ pc, pc < 52 → jxchkp 148 pc = true := fun pc h => jxchkc_at jxkc148_0 (by omega) (by omega)
theorem jxkl149 : ∀ pc, pc < 36 → jxchkp 149 pc = true := fun pc h => jxchkc_at jxkc149_0 (by omega) (by omega)
theorem jxkl150 : ∀ pc, pc < 196 → jxchkp 150 pc = true := fun pc h => (Nat.lt_or_ge pc 100).elim (fun h9 => jxchkc_at jxkc150_0 (by omega) (by omega)) (fun h9 => jxchkc_at jxkc150_100 (by omega) (by omega))
theorem jxkl151 : ∀ pc, pc < 167 → jxchkp 151 pc = true := fun pc h => (Nat.lt_or_ge pc 100).elim (fun h9 => jxchkc_at jxkc151_0 (by omega) (by omega)) (fun h9 => jxchkc_at jxkc151_100 (by omega) (by omega))
theorem jxkl152 : ∀ pc, pc < 33 → jxchkp 152 pc = true := fun pc h => jxchkc_at jxkc152_0 (by omega) (by omega)
theorem jxkl153 : ∀ pc, pc < 243 → jxchkp 153 pc = true := fun pc h => (Nat.lt_or_ge pc 100).elim (fun h9 => jxchkc_at jxkc153_0 (by omega) (by omega)) (fun h9 => (Nat.lt_or_ge pc 200).elim (fun h9 => jxchkc_at jxkc153_100 (by omega) (by omega)) (fun h9 => jxchkc_at jxkc153_200 (by omega) (by omega)))
theorem jxkl154 : ∀ pc, pc < 24 → jxchkp 154 pc = true := fun pc h => jxchkc_at jxkc154_0 (by omega) (by omega)
theorem jxkl155 : ∀ pc, pc < 71 → jxchkp 155 pc = true := fun pc h => jxchkc_at jxkc155_0 (by omega) (by omega)
theorem jxkl156 : ∀ pc, pc < 58 → jxchkp 156 pc = true := fun pc h => jxchkc_at jxkc156_0 (by omega) (by omega)
theorem jxkl157 : ∀ pc, pc < 68 → jxchkp 157 pc = true := fun pc h => jxchkc_at jxkc157_0 (by omega) (by omega)
theorem jxkl158 : ∀ pc, pc < 80 → jxchkp 158 pc = true := fun pc h => jxchkc_at jxkc158_0 (by omega) (by omega)
theorem jxkl159 : ∀ pc, pc < 107 → jxchkp 159 pc = true := fun pc h => (Nat.lt_or_ge pc 100).elim (fun h9 => jxchkc_at jxkc159_0 (by omega) (by omega)) (fun h9 => jxchkc_at jxkc159_100 (by omega) (by omega))
theorem jxkl160 : ∀ pc, pc < 64 → jxchkp 160 pc = true := fun pc h => jxchkc_at jxkc160_0 (by omega) (by omega)
theorem jxkl161 : ∀ pc, pc < 27 → jxchkp 161 pc = true := fun pc h => jxchkc_at jxkc161_0 (by omega) (by omega)
theorem jxkl162 : ∀ pc, pc < 44 → jxchkp 162 pc = true := fun pc h => jxchkc_at jxkc162_0 (by omega) (by omega)
theorem jxkl163 : ∀ pc, pc < 51 → jxchkp 163 pc = true := fun pc h => jxchkc_at jxkc163_0 (by omega) (by omega)
theorem jxkl164 : ∀ pc, pc < 36 → jxchkp 164 pc = true := fun pc h => jxchkc_at jxkc164_0 (by omega) (by omega)
theorem jxkl165 : ∀ pc, pc < 74 → jxchkp 165 pc = true := fun pc h => jxchkc_at jxkc165_0 (by omega) (by omega)
theorem jxkl166 : ∀ pc, pc < 62 → jxchkp 166 pc = true := fun pc h => jxchkc_at jxkc166_0 (by omega) (by omega)
theorem jxkl167 : ∀ pc, pc < 72 → jxchkp 167 pc = true := fun pc h => jxchkc_at jxkc167_0 (by omega) (by omega)
theorem jxkl168 : ∀ pc, pc < 190 → jxchkp 168 pc = true := fun pc h => (Nat.lt_or_ge pc 100).elim (fun h9 => jxchkc_at jxkc168_0 (by omega) (by omega)) (fun h9 => jxchkc_at jxkc168_100 (by omega) (by omega))
theorem jxkl169 : ∀ pc, pc < 67 → jxchkp 169 pc = true := fun pc h => jxchkc_at jxkc169_0 (by omega) (by omega)
theorem jxkl170 : ∀ pc, pc < 36 → jxchkp 170 pc = true := fun pc h => jxchkc_at jxkc170_0 (by omega) (by omega)
theorem jxkl171 : ∀ pc, pc < 64 → jxchkp 171 pc = true := fun pc h => jxchkc_at jxkc171_0 (by omega) (by omega)
theorem jxkl172 : ∀ pc, pc < 71 → jxchkp 172 pc = true := fun pc h => jxchkc_at jxkc172_0 (by omega) (by omega)
theorem jxkl173 : ∀ pc, pc < 44 → jxchkp 173 pc = true := fun pc h => jxchkc_at jxkc173_0 (by omega) (by omega)
theorem jxkl174 : ∀ pc, pc < 69 → jxchkp 174 pc = true := fun pc h => jxchkc_at jxkc174_0 (by omega) (by omega)
theorem jxkl175 : ∀ pc, pc < 93 → jxchkp 175 pc = true := fun pc h => jxchkc_at jxkc175_0 (by omega) (by omega)
theorem jxkl176 : ∀ pc, pc < 49 → jxchkp 176 pc = true := fun pc h => jxchkc_at jxkc176_0 (by omega) (by omega)
theorem jxkl177 : ∀ pc, pc < 14 → jxchkp 177 pc = true := fun pc h => jxchkc_at jxkc177_0 (by omega) (by omega)
theorem jxkl178 : ∀ pc, pc < 13 → jxchkp 178 pc = true := fun pc h => jxchkc_at jxkc178_0 (by omega) (by omega)
theorem jxkl179 : ∀ pc, pc < 109 → jxchkp 179 pc = true := fun pc h => (Nat.lt_or_ge pc 100).elim (fun h9 => jxchkc_at jxkc179_0 (by omega) (by omega)) (fun h9 => jxchkc_at jxkc179_100 (by omega) (by omega))
theorem jxkl180 : ∀ pc, pc < 38 → jxchkp 180 pc = true := fun pc h => jxchkc_at jxkc180_0 (by omega) (by omega)
theorem jxkl181 : ∀ pc, pc < 211 → jxchkp 181 pc = true := fun pc h => (Nat.lt_or_ge pc 100).elim (fun h9 => jxchkc_at jxkc181_0 (by omega) (by omega)) (fun h9 => (Nat.lt_or_ge pc 200).elim (fun h9 => jxchkc_at jxkc181_100 (by omega) (by omega)) (fun h9 => jxchkc_at jxkc181_200 (by omega) (by omega)))
theorem jxkl182 : ∀ pc, pc < 28 → jxchkp 182 pc = true := fun pc h => jxchkc_at jxkc182_0 (by omega) (by omega)
theorem jxkl183 : ∀ pc, pc < 69 → jxchkp 183 pc = true := fun pc h => jxchkc_at jxkc183_0 (by omega) (by omega)
theorem jxkl184 : ∀ pc, pc < 34 → jxchkp 184 pc = true := fun pc h => jxchkc_at jxkc184_0 (by omega) (by omega)
theorem jxkl185 : ∀ pc, pc < 23 → jxchkp 185 pc = true := fun pc h => jxchkc_at jxkc185_0 (by omega) (by omega)
theorem jxkl186 : ∀ pc, pc < 8 → jxchkp 186 pc = true := fun pc h => jxchkc_at jxkc186_0 (by omega) (by omega)
theorem jxkl187 : ∀ pc, pc < 10 → jxchkp 187 pc = true := fun pc h => jxchkc_at jxkc187_0 (by omega) (by omega)
theorem jxkl188 : ∀ pc, pc < 160 → jxchkp 188 pc = true := fun pc h => (Nat.lt_or_ge pc 100).elim (fun h9 => jxchkc_at jxkc188_0 (by omega) (by omega)) (fun h9 => jxchkc_at jxkc188_100 (by omega) (by omega))
theorem jxkl189 : ∀ pc, pc < 25 → jxchkp 189 pc = true := fun pc h => jxchkc_at jxkc189_0 (by omega) (by omega)
theorem jxkl190 : ∀ pc, pc < 98 → jxchkp 190 pc = true := fun pc h => jxchkc_at jxkc190_0 (by omega) (by omega)
theorem jxkl191 : ∀ pc, pc < 42 → jxchkp 191 pc = true := fun pc h => jxchkc_at jxkc191_0 (by omega) (by omega)
theorem jxkl192 : ∀ pc, pc < 67 → jxchkp 192 pc = true := fun pc h => jxchkc_at jxkc192_0 (by omega) (by omega)
theorem jxkl193 : ∀ pc, pc < 11 → jxchkp 193 pc = true := fun pc h => jxchkc_at jxkc193_0 (by omega) (by omega)
theorem jxkl194 : ∀ pc, pc < 112 → jxchkp 194 pc = true := fun pc h => (Nat.lt_or_ge pc 100).elim (fun h9 => jxchkc_at jxkc194_0 (by omega) (by omega)) (fun h9 => jxchkc_at jxkc194_100 (by omega) (by omega))
theorem jxkl195 : ∀ pc, pc < 9 → jxchkp 195 pc = true := fun pc h => jxchkc_at jxkc195_0 (by omega) (by omega)
theorem jxkl196 : ∀ pc, pc < 53 → jxchkp 196 pc = true := fun pc h => jxchkc_at jxkc196_0 (by omega) (by omega)
theorem jxkl197 : ∀ pc, pc < 196 → jxchkp 197 pc = true := fun pc h => (Nat.lt_or_ge pc 100).elim (fun h9 => jxchkc_at jxkc197_0 (by omega) (by omega)) (fun h9 => jxchkc_at jxkc197_100 (by omega) (by omega))
theorem jxkl198 : ∀ pc, pc < 50 → jxchkp 198 pc = true := fun pc h => jxchkc_at jxkc198_0 (by omega) (by omega)
theorem jxkl199 : ∀ pc, pc < 16 → jxchkp 199 pc = true := fun pc h => jxchkc_at jxkc199_0 (by omega) (by omega)
theorem jxkl200 : ∀ pc, pc < 9 → jxchkp 200 pc = true := fun pc h => jxchkc_at jxkc200_0 (by omega) (by omega)
theorem jxkl201 : ∀ pc, pc < 8 → jxchkp 201 pc = true := fun pc h => jxchkc_at jxkc201_0 (by omega) (by omega)
theorem jxkl202 : ∀ pc, pc < 23 → jxchkp 202 pc = true := fun pc h => jxchkc_at jxkc202_0 (by omega) (by omega)
theorem jxkl203 : ∀ pc, pc < 1079 → jxchkp 203 pc = true := fun pc h => (Nat.lt_or_ge pc 100).elim (fun h9 => jxchkc_at jxkc203_0 (by omega) (by omega)) (fun h9 => (Nat.lt_or_ge pc 200).elim (fun h9 => jxchkc_at jxkc203_100 (by omega) (by omega)) (fun h9 => (Nat.lt_or_ge pc 300).elim (fun h9 => jxchkc_at jxkc203_200 (by omega) (by omega)) (fun h9 => (Nat.lt_or_ge pc 400).elim (fun h9 => jxchkc_at jxkc203_300 (by omega) (by omega)) (fun h9 => (Nat.lt_or_ge pc 500).elim (fun h9 => jxchkc_at jxkc203_400 (by omega) (by omega)) (fun h9 => (Nat.lt_or_ge pc 600).elim (fun h9 => jxchkc_at jxkc203_500 (by omega) (by omega)) (fun h9 => (Nat.lt_or_ge pc 700).elim (fun h9 => jxchkc_at jxkc203_600 (by omega) (by omega)) (fun h9 => (Nat.lt_or_ge pc 800).elim (fun h9 => jxchkc_at jxkc203_700 (by omega) (by omega)) (fun h9 => (Nat.lt_or_ge pc 900).elim (fun h9 => jxchkc_at jxkc203_800 (by omega) (by omega)) (fun h9 => (Nat.lt_or_ge pc 1000).elim (fun h9 => jxchkc_at jxkc203_900 (by omega) (by omega)) (fun h9 => jxchkc_at jxkc203_1000 (by omega) (by omega)))))))))))
theorem jxkl204 : ∀ pc, pc < 16 → jxchkp 204 pc = true := fun pc h => jxchkc_at jxkc204_0 (by omega) (by omega)
theorem jxkl205 : ∀ pc, pc < 9 → jxchkp 205 pc = true := fun pc h => jxchkc_at jxkc205_0 (by omega) (by omega)
theorem jxkl206 : ∀ pc, pc < 8 → jxchkp 206 pc = true := fun pc h => jxchkc_at jxkc206_0 (by omega) (by omega)
theorem jxkl207 : ∀ pc, pc < 12 → jxchkp 207 pc = true := fun pc h => jxchkc_at jxkc207_0 (by omega) (by omega)
theorem jxkl208 : ∀ pc, pc < 23 → jxchkp 208 pc = true := fun pc h => jxchkc_at jxkc208_0 (by omega) (by omega)
theorem jxkl209 : ∀ pc, pc < 71 → jxchkp 209 pc = true := fun pc h => jxchkc_at jxkc209_0 (by omega) (by omega)
theorem jxkl210 : ∀ pc, pc < 108 → jxchkp 210 pc = true := fun pc h => (Nat.lt_or_ge pc 100).elim (fun h9 => jxchkc_at jxkc210_0 (by omega) (by omega)) (fun h9 => jxchkc_at jxkc210_100 (by omega) (by omega))
theorem jxkl211 : ∀ pc, pc < 37 → jxchkp 211 pc = true := fun pc h => jxchkc_at jxkc211_0 (by omega) (by omega)
theorem jxkl212 : ∀ pc, pc < 47 → jxchkp 212 pc = true := fun pc h => jxchkc_at jxkc212_0 (by omega) (by omega)
theorem jxkl213 : ∀ pc, pc < 21 → jxchkp 213 pc = true := fun pc h => jxchkc_at jxkc213_0 (by omega) (by omega)
theorem jxkl214 : ∀ pc, pc < 21 → jxchkp 214 pc = true := fun pc h => jxchkc_at jxkc214_0 (by omega) (by omega)
theorem jxkl215 : ∀ pc, pc < 67 → jxchkp 215 pc = true := fun pc h => jxchkc_at jxkc215_0 (by omega) (by omega)
theorem jxkl216 : ∀ pc, pc < 202 → jxchkp 216 pc = true := fun pc h => (Nat.lt_or_ge pc 100).elim (fun h9 => jxchkc_at jxkc216_0 (by omega) (by omega)) (fun h9 => (Nat.lt_or_ge pc 200).elim (fun h9 => jxchkc_at jxkc216_100 (by omega) (by omega)) (fun h9 => jxchkc_at jxkc216_200 (by omega) (by omega)))
theorem jxkl217 : ∀ pc, pc < 162 → jxchkp 217 pc = true := fun pc h => (Nat.lt_or_ge pc 100).elim (fun h9 => jxchkc_at jxkc217_0 (by omega) (by omega)) (fun h9 => jxchkc_at jxkc217_100 (by omega) (by omega))
theorem jxkl218 : ∀ pc, pc < 21 → jxchkp 218 pc = true := fun pc h => jxchkc_at jxkc218_0 (by omega) (by omega)
theorem jxkl219 : ∀ pc, pc < 49 → jxchkp 219 pc = true := fun pc h => jxchkc_at jxkc219_0 (by omega) (by omega)
theorem jxkl220 : ∀ pc, pc < 131 → jxchkp 220 pc = true := fun pc h => (Nat.lt_or_ge pc 100).elim (fun h9 => jxchkc_at jxkc220_0 (by omega) (by omega)) (fun h9 => jxchkc_at jxkc220_100 (by omega) (by omega))
theorem jxkl221 : ∀ pc, pc < 41 → jxchkp 221 pc = true := fun pc h => jxchkc_at jxkc221_0 (by omega) (by omega)
theorem jxkl222 : ∀ pc, pc < 67 → jxchkp 222 pc = true := fun pc h => jxchkc_at jxkc222_0 (by omega) (by omega)
theorem jxkl223 : ∀ pc, pc < 116 → jxchkp 223 pc = true := fun pc h => (Nat.lt_or_ge pc 100).elim (fun h9 => jxchkc_at jxkc223_0 (by omega) (by omega)) (fun h9 => jxchkc_at jxkc223_100 (by omega) (by omega))
theorem jxkl224 : ∀ pc, pc < 196 → jxchkp 224 pc = true := fun pc h => (Nat.lt_or_ge pc 100).elim (fun h9 => jxchkc_at jxkc224_0 (by omega) (by omega)) (fun h9 => jxchkc_at jxkc224_100 (by omega) (by omega))
theorem jxkl225 : ∀ pc, pc < 125 → jxchkp 225 pc = true := fun pc h => (Nat.lt_or_ge pc 100).elim (fun h9 => jxchkc_at jxkc225_0 (by omega) (by omega)) (fun h9 => jxchkc_at jxkc225_100 (by omega) (by omega))
theorem jxkl226 : ∀ pc, pc < 204 → jxchkp 226 pc = true := fun pc h => (Nat.lt_or_ge pc 100).elim (fun h9 => jxchkc_at jxkc226_0 (by omega) (by omega)) (fun h9 => (Nat.lt_or_ge pc 200).elim (fun h9 => jxchkc_at jxkc226_100 (by omega) (by omega)) (fun h9 => jxchkc_at jxkc226_200 (by omega) (by omega)))
theorem jxkl227 : ∀ pc, pc < 185 → jxchkp 227 pc = true := fun pc h => (Nat.lt_or_ge pc 100).elim (fun h9 => jxchkc_at jxkc227_0 (by omega) (by omega)) (fun h9 => jxchkc_at jxkc227_100 (by omega) (by omega))
theorem jxkl228 : ∀ pc, pc < 40 → jxchkp 228 pc = true := fun pc h => jxchkc_at jxkc228_0 (by omega) (by omega)
theorem jxkl229 : ∀ pc, pc < 30 → jxchkp 229 pc = true := fun pc h => jxchkc_at jxkc229_0 (by omega) (by omega)
theorem jxkl230 : ∀ pc, pc < 39 → jxchkp 230 pc = true := fun pc h => jxchkc_at jxkc230_0 (by omega) (by omega)
theorem jxkl231 : ∀ pc, pc < 37 → jxchkp 231 pc = true := fun pc h => jxchkc_at jxkc231_0 (by omega) (by omega)
theorem jxkl232 : ∀ pc, pc < 329 → jxchkp 232 pc = true := fun pc h => (Nat.lt_or_ge pc 100).elim (fun h9 => jxchkc_at jxkc232_0 (by omega) (by omega)) (fun h9 => (Nat.lt_or_ge pc 200).elim (fun h9 => jxchkc_at jxkc232_100 (by omega) (by omega)) (fun h9 => (Nat.lt_or_ge pc 300).elim (fun h9 => jxchkc_at jxkc232_200 (by omega) (by omega)) (fun h9 => jxchkc_at jxkc232_300 (by omega) (by omega))))
theorem jxkl233 : ∀ pc, pc < 85 → jxchkp 233 pc = true := fun pc h => jxchkc_at jxkc233_0 (by omega) (by omega)
theorem jxkl234 : ∀ pc, pc < 99 → jxchkp 234 pc = true := fun pc h => jxchkc_at jxkc234_0 (by omega) (by omega)
theorem jxkl235 : ∀ pc, pc < 14 → jxchkp 235 pc = true := fun pc h => jxchkc_at jxkc235_0 (by omega) (by omega)
theorem jxkl236 : ∀ pc, pc < 22 → jxchkp 236 pc = true := fun pc h => jxchkc_at jxkc236_0 (by omega) (by omega)
theorem jxkl237 : ∀ pc, pc < 50 → jxchkp 237 pc = true := fun pc h => jxchkc_at jxkc237_0 (by omega) (by omega)
theorem jxkl238 : ∀ pc, pc < 189 → jxchkp 238 pc = true := fun pc h => (Nat.lt_or_ge pc 100).elim (fun h9 => jxchkc_at jxkc238_0 (by omega) (by omega)) (fun h9 => jxchkc_at jxkc238_100 (by omega) (by omega))
theorem jxkl239 : ∀ pc, pc < 68 → jxchkp 239 pc = true := fun pc h => jxchkc_at jxkc239_0 (by omega) (by omega)
theorem jxkl240 : ∀ pc, pc < 152 → jxchkp 240 pc = true := fun pc h => (Nat.lt_or_ge pc 100).elim (fun h9 => jxchkc_at jxkc240_0 (by omega) (by omega)) (fun h9 => jxchkc_at jxkc240_100 (by omega) (by omega))
theorem jxkl241 : ∀ pc, pc < 46 → jxchkp 241 pc = true := fun pc h => jxchkc_at jxkc241_0 (by omega) (by omega)
theorem jxkl242 : ∀ pc, pc < 46 → jxchkp 242 pc = true := fun pc h => jxchkc_at jxkc242_0 (by omega) (by omega)
theorem jxkl243 : ∀ pc, pc < 46 → jxchkp 243 pc = true := fun pc h => jxchkc_at jxkc243_0 (by omega) (by omega)
theorem jxkl244 : ∀ pc, pc < 51 → jxchkp 244 pc = true := fun pc h => jxchkc_at jxkc244_0 (by omega) (by omega)
theorem jxkl245 : ∀ pc, pc < 25 → jxchkp 245 pc = true := fun pc h => jxchkc_at jxkc245_0 (by omega) (by omega)
theorem jxkl246 : ∀ pc, pc < 56 → jxchkp 246 pc = true := fun pc h => jxchkc_at jxkc246_0 (by omega) (by omega)
theorem jxkl247 : ∀ pc, pc < 35 → jxchkp 247 pc = true := fun pc h => jxchkc_at jxkc247_0 (by omega) (by omega)
theorem jxkl248 : ∀ pc, pc < 98 → jxchkp 248 pc = true := fun pc h => jxchkc_at jxkc248_0 (by omega) (by omega)
theorem jxkl249 : ∀ pc, pc < 35 → jxchkp 249 pc = true := fun pc h => jxchkc_at jxkc249_0 (by omega) (by omega)
theorem jxkl250 : ∀ pc, pc < 47 → jxchkp 250 pc = true := fun pc h => jxchkc_at jxkc250_0 (by omega) (by omega)
theorem jxkl251 : ∀ pc, pc < 186 → jxchkp 251 pc = true := fun pc h => (Nat.lt_or_ge pc 100).elim (fun h9 => jxchkc_at jxkc251_0 (by omega) (by omega)) (fun h9 => jxchkc_at jxkc251_100 (by omega) (by omega))
theorem jxkl252 : ∀ pc, pc < 72 → jxchkp 252 pc = true := fun pc h => jxchkc_at jxkc252_0 (by omega) (by omega)
theorem jxkl253 : ∀ pc, pc < 233 → jxchkp 253 pc = true := fun pc h => (Nat.lt_or_ge pc 100).elim (fun h9 => jxchkc_at jxkc253_0 (by omega) (by omega)) (fun h9 => (Nat.lt_or_ge pc 200).elim (fun h9 => jxchkc_at jxkc253_100 (by omega) (by omega)) (fun h9 => jxchkc_at jxkc253_200 (by omega) (by omega)))
theorem jxkl254 : ∀ pc, pc < 155 → jxchkp 254 pc = true := fun pc h => (Nat.lt_or_ge pc 100).elim (fun h9 => jxchkc_at jxkc254_0 (by omega) (by omega)) (fun h9 => jxchkc_at jxkc254_100 (by omega) (by omega))
theorem jxkl255 : ∀ pc, pc < 270 → jxchkp 255 pc = true := fun pc h => (Nat.lt_or_ge pc 100).elim (fun h9 => jxchkc_at jxkc255_0 (by omega) (by omega)) (fun h9 => (Nat.lt_or_ge pc 200).elim (fun h9 => jxchkc_at jxkc255_100 (by omega) (by omega)) (fun h9 => jxchkc_at jxkc255_200 (by omega) (by omega)))
theorem jxkl256 : ∀ pc, pc < 54 → jxchkp 256 pc = true := fun pc h => jxchkc_at jxkc256_0 (by omega) (by omega)
theorem jxkl257 : ∀ pc, pc < 61 → jxchkp 257 pc = true := fun pc h => jxchkc_at jxkc257_0 (by omega) (by omega)
theorem jxkl258 : ∀ pc, pc < 68 → jxchkp 258 pc = true := fun pc h => jxchkc_at jxkc258_0 (by omega) (by omega)
theorem jxkl259 : ∀ pc, pc < 114 → jxchkp 259 pc = true := fun pc h => (Nat.lt_or_ge pc 100).elim (fun h9 => jxchkc_at jxkc259_0 (by omega) (by omega)) (fun h9 => jxchkc_at jxkc259_100 (by omega) (by omega))
theorem jxkl260 : ∀ pc, pc < 170 → jxchkp 260 pc = true := fun pc h => (Nat.lt_or_ge pc 100).elim (fun h9 => jxchkc_at jxkc260_0 (by omega) (by omega)) (fun h9 => jxchkc_at jxkc260_100 (by omega) (by omega))
theorem jxkl261 : ∀ pc, pc < 64 → jxchkp 261 pc = true := fun pc h => jxchkc_at jxkc261_0 (by omega) (by omega)
theorem jxkl262 : ∀ pc, pc < 95 → jxchkp 262 pc = true := fun pc h => jxchkc_at jxkc262_0 (by omega) (by omega)
theorem jxkl263 : ∀ pc, pc < 34 → jxchkp 263 pc = true := fun pc h => jxchkc_at jxkc263_0 (by omega) (by omega)
theorem jxkl264 : ∀ pc, pc < 35 → jxchkp 264 pc = true := fun pc h => jxchkc_at jxkc264_0 (by omega) (by omega)
theorem jxkl265 : ∀ pc, pc < 61 → jxchkp 265 pc = true := fun pc h => jxchkc_at jxkc265_0 (by omega) (by omega)
theorem jxkl266 : ∀ pc, pc < 77 → jxchkp 266 pc = true := fun pc h => jxchkc_at jxkc266_0 (by omega) (by omega)
theorem jxkl267 : ∀ pc, pc < 130 → jxchkp 267 pc = true := fun pc h => (Nat.lt_or_ge pc 100).elim (fun h9 => jxchkc_at jxkc267_0 (by omega) (by omega)) (fun h9 => jxchkc_at jxkc267_100 (by omega) (by omega))
theorem jxkl268 : ∀ pc, pc < 26 → jxchkp 268 pc = true := fun pc h => jxchkc_at jxkc268_0 (by omega) (by omega)
theorem jxkl269 : ∀ pc, pc < 18 → jxchkp 269 pc = true := fun pc h => jxchkc_at jxkc269_0 (by omega) (by omega)
theorem jxkl270 : ∀ pc, pc < 29 → jxchkp 270 pc = true := fun pc h => jxchkc_at jxkc270_0 (by omega) (by omega)
theorem jxkl271 : ∀ pc, pc < 239 → jxchkp 271 pc = true := fun pc h => (Nat.lt_or_ge pc 100).elim (fun h9 => jxchkc_at jxkc271_0 (by omega) (by omega)) (fun h9 => (Nat.lt_or_ge pc 200).elim (fun h9 => jxchkc_at jxkc271_100 (by omega) (by omega)) (fun h9 => jxchkc_at jxkc271_200 (by omega) (by omega)))
theorem jxkl272 : ∀ pc, pc < 203 → jxchkp 272 pc = true := fun pc h => (Nat.lt_or_ge pc 100).elim (fun h9 => jxchkc_at jxkc272_0 (by omega) (by omega)) (fun h9 => (Nat.lt_or_ge pc 200).elim (fun h9 => jxchkc_at jxkc272_100 (by omega) (by omega)) (fun h9 => jxchkc_at jxkc272_200 (by omega) (by omega)))
theorem jxkl273 : ∀ pc, pc < 45 → jxchkp 273 pc = true := fun pc h => jxchkc_at jxkc273_0 (by omega) (by omega)
theorem jxkl274 : ∀ pc, pc < 173 → jxchkp 274 pc = true := fun pc h => (Nat.lt_or_ge pc 100).elim (fun h9 => jxchkc_at jxkc274_0 (by omega) (by omega)) (fun h9 => jxchkc_at jxkc274_100 (by omega) (by omega))
theorem jxkl275 : ∀ pc, pc < 40 → jxchkp 275 pc = true := fun pc h => jxchkc_at jxkc275_0 (by omega) (by omega)
theorem jxkl276 : ∀ pc, pc < 50 → jxchkp 276 pc = true := fun pc h => jxchkc_at jxkc276_0 (by omega) (by omega)
theorem jxkl277 : ∀ pc, pc < 70 → jxchkp 277 pc = true := fun pc h => jxchkc_at jxkc277_0 (by omega) (by omega)
theorem jxkl278 : ∀ pc, pc < 46 → jxchkp 278 pc = true := fun pc h => jxchkc_at jxkc278_0 (by omega) (by omega)
theorem jxkl279 : ∀ pc, pc < 155 → jxchkp 279 pc = true := fun pc h => (Nat.lt_or_ge pc 100).elim (fun h9 => jxchkc_at jxkc279_0 (by omega) (by omega)) (fun h9 => jxchkc_at jxkc279_100 (by omega) (by omega))
theorem jxkl280 : ∀ pc, pc < 89 → jxchkp 280 pc = true := fun pc h => jxchkc_at jxkc280_0 (by omega) (by omega)
theorem jxkl281 : ∀ pc, pc < 173 → jxchkp 281 pc = true := fun pc h => (Nat.lt_or_ge pc 100).elim (fun h9 => jxchkc_at jxkc281_0 (by omega) (by omega)) (fun h9 => jxchkc_at jxkc281_100 (by omega) (by omega))
theorem jxkl282 : ∀ pc, pc < 202 → jxchkp 282 pc = true := fun pc h => (Nat.lt_or_ge pc 100).elim (fun h9 => jxchkc_at jxkc282_0 (by omega) (by omega)) (fun h9 => (Nat.lt_or_ge pc 200).elim (fun h9 => jxchkc_at jxkc282_100 (by omega) (by omega)) (fun h9 => jxchkc_at jxkc282_200 (by omega) (by omega)))
theorem jxkl283 : ∀ pc, pc < 185 → jxchkp 283 pc = true := fun pc h => (Nat.lt_or_ge pc 100).elim (fun h9 => jxchkc_at jxkc283_0 (by omega) (by omega)) (fun h9 => jxchkc_at jxkc283_100 (by omega) (by omega))
theorem jxkl284 : ∀ pc, pc < 47 → jxchkp 284 pc = true := fun pc h => jxchkc_at jxkc284_0 (by omega) (by omega)
theorem jxkl285 : ∀ pc, pc < 49 → jxchkp 285 pc = true := fun pc h => jxchkc_at jxkc285_0 (by omega) (by omega)
theorem jxkl286 : ∀ pc, pc < 157 → jxchkp 286 pc = true := fun pc h => (Nat.lt_or_ge pc 100).elim (fun h9 => jxchkc_at jxkc286_0 (by omega) (by omega)) (fun h9 => jxchkc_at jxkc286_100 (by omega) (by omega))
theorem jxkl287 : ∀ pc, pc < 257 → jxchkp 287 pc = true := fun pc h => (Nat.lt_or_ge pc 100).elim (fun h9 => jxchkc_at jxkc287_0 (by omega) (by omega)) (fun h9 => (Nat.lt_or_ge pc 200).elim (fun h9 => jxchkc_at jxkc287_100 (by omega) (by omega)) (fun h9 => jxchkc_at jxkc287_200 (by omega) (by omega)))
theorem jxkl288 : ∀ pc, pc < 28 → jxchkp 288 pc = true := fun pc h => jxchkc_at jxkc288_0 (by omega) (by omega)
theorem jxkl289 : ∀ pc, pc < 203 → jxchkp 289 pc = true := fun pc h => (Nat.lt_or_ge pc 100).elim (fun h9 => jxchkc_at jxkc289_0 (by omega) (by omega)) (fun h9 => (Nat.lt_or_ge pc 200).elim (fun h9 => jxchkc_at jxkc289_100 (by omega) (by omega)) (fun h9 => jxchkc_at jxkc289_200 (by omega) (by omega)))
theorem jxkl290 : ∀ pc, pc < 53 → jxchkp 290 pc = true := fun pc h => jxchkc_at jxkc290_0 (by omega) (by omega)
theorem jxkl291 : ∀ pc, pc < 11 → jxchkp 291 pc = true := fun pc h => jxchkc_at jxkc291_0 (by omega) (by omega)
theorem jxkl292 : ∀ pc, pc < 11 → jxchkp 292 pc = true := fun pc h => jxchkc_at jxkc292_0 (by omega) (by omega)
theorem jxkl293 : ∀ pc, pc < 12 → jxchkp 293 pc = true := fun pc h => jxchkc_at jxkc293_0 (by omega) (by omega)
theorem jxkl294 : ∀ pc, pc < 11 → jxchkp 294 pc = true := fun pc h => jxchkc_at jxkc294_0 (by omega) (by omega)
theorem jxkl295 : ∀ pc, pc < 25 → jxchkp 295 pc = true := fun pc h => jxchkc_at jxkc295_0 (by omega) (by omega)
theorem jxkl296 : ∀ pc, pc < 15 → jxchkp 296 pc = true := fun pc h => jxchkc_at jxkc296_0 (by omega) (by omega)
theorem jxkl297 : ∀ pc, pc < 19 → jxchkp 297 pc = true := fun pc h => jxchkc_at jxkc297_0 (by omega) (by omega)
theorem jxkl298 : ∀ pc, pc < 10 → jxchkp 298 pc = true := fun pc h => jxchkc_at jxkc298_0 (by omega) (by omega)
theorem jxkl299 : ∀ pc, pc < 15 → jxchkp 299 pc = true := fun pc h => jxchkc_at jxkc299_0 (by omega) (by omega)
theorem jxkl300 : ∀ pc, pc < 60 → jxchkp 300 pc = true := fun pc h => jxchkc_at jxkc300_0 (by omega) (by omega)
theorem jxkl301 : ∀ pc, pc < 5 → jxchkp 301 pc = true := fun pc h => jxchkc_at jxkc301_0 (by omega) (by omega)
theorem jxkl302 : ∀ pc, pc < 11 → jxchkp 302 pc = true := fun pc h => jxchkc_at jxkc302_0 (by omega) (by omega)
theorem jxkl303 : ∀ pc, pc < 9 → jxchkp 303 pc = true := fun pc h => jxchkc_at jxkc303_0 (by omega) (by omega)
theorem jxkl304 : ∀ pc, pc < 18 → jxchkp 304 pc = true := fun pc h => jxchkc_at jxkc304_0 (by omega) (by omega)
theorem jxkl305 : ∀ pc, pc < 1197 → jxchkp 305 pc = true := fun pc h => (Nat.lt_or_ge pc 100).elim (fun h9 => jxchkc_at jxkc305_0 (by omega) (by omega)) (fun h9 => (Nat.lt_or_ge pc 200).elim (fun h9 => jxchkc_at jxkc305_100 (by omega) (by omega)) (fun h9 => (Nat.lt_or_ge pc 300).elim (fun h9 => jxchkc_at jxkc305_200 (by omega) (by omega)) (fun h9 => (Nat.lt_or_ge pc 400).elim (fun h9 => jxchkc_at jxkc305_300 (by omega) (by omega)) (fun h9 => (Nat.lt_or_ge pc 500).elim (fun h9 => jxchkc_at jxkc305_400 (by omega) (by omega)) (fun h9 => (Nat.lt_or_ge pc 600).elim (fun h9 => jxchkc_at jxkc305_500 (by omega) (by omega)) (fun h9 => (Nat.lt_or_ge pc 700).elim (fun h9 => jxchkc_at jxkc305_600 (by omega) (by omega)) (fun h9 => (Nat.lt_or_ge pc 800).elim (fun h9 => jxchkc_at jxkc305_700 (by omega) (by omega)) (fun h9 => (Nat.lt_or_ge pc 900).elim (fun h9 => jxchkc_at jxkc305_800 (by omega) (by omega)) (fun h9 => (Nat.lt_or_ge pc 1000).elim (fun h9 => jxchkc_at jxkc305_900 (by omega) (by omega)) (fun h9 => (Nat.lt_or_ge pc 1100).elim (fun h9 => jxchkc_at jxkc305_1000 (by omega) (by omega)) (fun h9 => jxchkc_at jxkc305_1100 (by omega) (by omega))))))))))))
theorem jxlt {len pc : Nat} {t : Option (Instr × Nat)} {q : Instr × Nat} (h : (bif Nat.ble len pc then none else t) = some q) : pc < len := by
  cases h2 : Nat.ble len pc <;> rw [h2] at h
  · exact Nat.lt_of_not_le (fun q => by rw [Nat.ble_eq_true_of_le q] at h2; cases h2)
  · cases h
def jxcodeP (y : Nat) : Prop := ∀ pc i n, jxcode y pc = some (i, n) → jxchkp y pc = true
theorem jxkp0 : jxcodeP 0 := fun pc i n h => jxkl0 pc (jxlt (len := 125) (t := _) (show jxc0 pc = some (i, n) from h))
theorem jxkp1 : jxcodeP 1 := fun pc i n h => jxkl1 pc (jxlt (len := 5) (t := _) (show jxc1 pc = some (i, n) from h))
theorem jxkp2 : jxcodeP 2 := fun pc i n h => jxkl2 pc (jxlt (len := 5) (t := _) (show jxc2 pc = some (i, n) from h))
theorem jxkp3 : jxcodeP 3 := fun pc i n h => jxkl3 pc (jxlt (len := 25) (t := _) (show jxc3 pc = some (i, n) from h))
theorem jxkp4 : jxcodeP 4 := fun pc i n h => jxkl4 pc (jxlt (len := 18) (t := _) (show jxc4 pc = some (i, n) from h))
theorem jxkp5 : jxcodeP 5 := fun pc i n h => jxkl5 pc (jxlt (len := 96) (t := _) (show jxc5 pc = some (i, n) from h))
theorem jxkp6 : jxcodeP 6 := fun pc i n h => jxkl6 pc (jxlt (len := 13) (t := _) (show jxc6 pc = some (i, n) from h))
theorem jxkp7 : jxcodeP 7 := fun pc i n h => jxkl7 pc (jxlt (len := 13) (t := _) (show jxc7 pc = some (i, n) from h))
theorem jxkp8 : jxcodeP 8 := fun pc i n h => jxkl8 pc (jxlt (len := 13) (t := _) (show jxc8 pc = some (i, n) from h))
theorem jxkp9 : jxcodeP 9 := fun pc i n h => jxkl9 pc (jxlt (len := 13) (t := _) (show jxc9 pc = some (i, n) from h))
theorem jxkp10 : jxcodeP 10 := fun pc i n h => jxkl10 pc (jxlt (len := 13) (t := _) (show jxc10 pc = some (i, n) from h))
theorem jxkp11 : jxcodeP 11 := fun pc i n h => jxkl11 pc (jxlt (len := 13) (t := _) (show jxc11 pc = some (i, n) from h))
theorem jxkp12 : jxcodeP 12 := fun pc i n h => jxkl12 pc (jxlt (len := 24) (t := _) (show jxc12 pc = some (i, n) from h))
theorem jxkp13 : jxcodeP 13 := fun pc i n h => jxkl13 pc (jxlt (len := 16) (t := _) (show jxc13 pc = some (i, n) from h))
theorem jxkp14 : jxcodeP 14 := fun pc i n h => jxkl14 pc (jxlt (len := 32) (t := _) (show jxc14 pc = some (i, n) from h))
theorem jxkp15 : jxcodeP 15 := fun pc i n h => jxkl15 pc (jxlt (len := 25) (t := _) (show jxc15 pc = some (i, n) from h))
theorem jxkp16 : jxcodeP 16 := fun pc i n h => jxkl16 pc (jxlt (len := 82) (t := _) (show jxc16 pc = some (i, n) from h))
theorem jxkp17 : jxcodeP 17 := fun pc i n h => jxkl17 pc (jxlt (len := 13) (t := _) (show jxc17 pc = some (i, n) from h))
theorem jxkp18 : jxcodeP 18 := fun pc i n h => jxkl18 pc (jxlt (len := 62) (t := _) (show jxc18 pc = some (i, n) from h))
theorem jxkp19 : jxcodeP 19 := fun pc i n h => jxkl19 pc (jxlt (len := 123) (t := _) (show jxc19 pc = some (i, n) from h))
theorem jxkp20 : jxcodeP 20 := fun pc i n h => jxkl20 pc (jxlt (len := 52) (t := _) (show jxc20 pc = some (i, n) from h))
theorem jxkp21 : jxcodeP 21 := fun pc i n h => jxkl21 pc (jxlt (len := 73) (t := _) (show jxc21 pc = some (i, n) from h))
theorem jxkp22 : jxcodeP 22 := fun pc i n h => jxkl22 pc (jxlt (len := 31) (t := _) (show jxc22 pc = some (i, n) from h))
theorem jxkp23 : jxcodeP 23 := fun pc i n h => jxkl23 pc (jxlt (len := 146) (t := _) (show jxc23 pc = some (i, n) from h))
theorem jxkp24 : jxcodeP 24 := fun pc i n h => jxkl24 pc (jxlt (len := 46) (t := _) (show jxc24 pc = some (i, n) from h))
theorem jxkp25 : jxcodeP 25 := fun pc i n h => jxkl25 pc (jxlt (len := 5) (t := _) (show jxc25 pc = some (i, n) from h))
theorem jxkp26 : jxcodeP 26 := fun pc i n h => jxkl26 pc (jxlt (len := 5) (t := _) (show jxc26 pc = some (i, n) from h))
theorem jxkp27 : jxcodeP 27 := fun pc i n h => jxkl27 pc (jxlt (len := 5) (t := _) (show jxc27 pc = some (i, n) from h))
theorem jxkp28 : jxcodeP 28 := fun pc i n h => jxkl28 pc (jxlt (len := 66) (t := _) (show jxc28 pc = some (i, n) from h))
theorem jxkp29 : jxcodeP 29 := fun pc i n h => jxkl29 pc (jxlt (len := 60) (t := _) (show jxc29 pc = some (i, n) from h))
theorem jxkp30 : jxcodeP 30 := fun pc i n h => jxkl30 pc (jxlt (len := 11) (t := _) (show jxc30 pc = some (i, n) from h))
theorem jxkp31 : jxcodeP 31 := fun pc i n h => jxkl31 pc (jxlt (len := 11) (t := _) (show jxc31 pc = some (i, n) from h))
theorem jxkp32 : jxcodeP 32 := fun pc i n h => jxkl32 pc (jxlt (len := 11) (t := _) (show jxc32 pc = some (i, n) from h))
theorem jxkp33 : jxcodeP 33 := fun pc i n h => jxkl33 pc (jxlt (len := 64) (t := _) (show jxc33 pc = some (i, n) from h))
theorem jxkp34 : jxcodeP 34 := fun pc i n h => jxkl34 pc (jxlt (len := 38) (t := _) (show jxc34 pc = some (i, n) from h))
theorem jxkp35 : jxcodeP 35 := fun pc i n h => jxkl35 pc (jxlt (len := 57) (t := _) (show jxc35 pc = some (i, n) from h))
theorem jxkp36 : jxcodeP 36 := fun pc i n h => jxkl36 pc (jxlt (len := 52) (t := _) (show jxc36 pc = some (i, n) from h))
theorem jxkp37 : jxcodeP 37 := fun pc i n h => jxkl37 pc (jxlt (len := 100) (t := _) (show jxc37 pc = some (i, n) from h))
theorem jxkp38 : jxcodeP 38 := fun pc i n h => jxkl38 pc (jxlt (len := 72) (t := _) (show jxc38 pc = some (i, n) from h))
theorem jxkp39 : jxcodeP 39 := fun pc i n h => jxkl39 pc (jxlt (len := 8) (t := _) (show jxc39 pc = some (i, n) from h))
theorem jxkp40 : jxcodeP 40 := fun pc i n h => jxkl40 pc (jxlt (len := 41) (t := _) (show jxc40 pc = some (i, n) from h))
theorem jxkp41 : jxcodeP 41 := fun pc i n h => jxkl41 pc (jxlt (len := 92) (t := _) (show jxc41 pc = some (i, n) from h))
theorem jxkp42 : jxcodeP 42 := fun pc i n h => jxkl42 pc (jxlt (len := 24) (t := _) (show jxc42 pc = some (i, n) from h))
theorem jxkp43 : jxcodeP 43 := fun pc i n h => jxkl43 pc (jxlt (len := 30) (t := _) (show jxc43 pc = some (i, n) from h))
theorem jxkp44 : jxcodeP 44 := fun pc i n h => jxkl44 pc (jxlt (len := 69) (t := _) (show jxc44 pc = some (i, n) from h))
theorem jxkp45 : jxcodeP 45 := fun pc i n h => jxkl45 pc (jxlt (len := 111) (t := _) (show jxc45 pc = some (i, n) from h))
theorem jxkp46 : jxcodeP 46 := fun pc i n h => jxkl46 pc (jxlt (len := 81) (t := _) (show jxc46 pc = some (i, n) from h))
theorem jxkp47 : jxcodeP 47 := fun pc i n h => jxkl47 pc (jxlt (len := 42) (t := _) (show jxc47 pc = some (i, n) from h))
theorem jxkp48 : jxcodeP 48 := fun pc i n h => jxkl48 pc (jxlt (len := 8) (t := _) (show jxc48 pc = some (i, n) from h))
theorem jxkp49 : jxcodeP 49 := fun pc i n h => jxkl49 pc (jxlt (len := 58) (t := _) (show jxc49 pc = some (i, n) from h))
theorem jxkp50 : jxcodeP 50 := fun pc i n h => jxkl50 pc (jxlt (len := 5) (t := _) (show jxc50 pc = some (i, n) from h))
theorem jxkp51 : jxcodeP 51 := fun pc i n h => jxkl51 pc (jxlt (len := 24) (t := _) (show jxc51 pc = some (i, n) from h))
theorem jxkp52 : jxcodeP 52 := fun pc i n h => jxkl52 pc (jxlt (len := 23) (t := _) (show jxc52 pc = some (i, n) from h))
theorem jxkp53 : jxcodeP 53 := fun pc i n h => jxkl53 pc (jxlt (len := 31) (t := _) (show jxc53 pc = some (i, n) from h))
theorem jxkp54 : jxcodeP 54 := fun pc i n h => jxkl54 pc (jxlt (len := 74) (t := _) (show jxc54 pc = some (i, n) from h))
theorem jxkp55 : jxcodeP 55 := fun pc i n h => jxkl55 pc (jxlt (len := 16) (t := _) (show jxc55 pc = some (i, n) from h))
theorem jxkp56 : jxcodeP 56 := fun pc i n h => jxkl56 pc (jxlt (len := 19) (t := _) (show jxc56 pc = some (i, n) from h))
theorem jxkp57 : jxcodeP 57 := fun pc i n h => jxkl57 pc (jxlt (len := 13) (t := _) (show jxc57 pc = some (i, n) from h))
theorem jxkp58 : jxcodeP 58 := fun pc i n h => jxkl58 pc (jxlt (len := 19) (t := _) (show jxc58 pc = some (i, n) from h))
theorem jxkp59 : jxcodeP 59 := fun pc i n h => jxkl59 pc (jxlt (len := 13) (t := _) (show jxc59 pc = some (i, n) from h))
theorem jxkp60 : jxcodeP 60 := fun pc i n h => jxkl60 pc (jxlt (len := 19) (t := _) (show jxc60 pc = some (i, n) from h))
theorem jxkp61 : jxcodeP 61 := fun pc i n h => jxkl61 pc (jxlt (len := 52) (t := _) (show jxc61 pc = some (i, n) from h))
theorem jxkp62 : jxcodeP 62 := fun pc i n h => jxkl62 pc (jxlt (len := 63) (t := _) (show jxc62 pc = some (i, n) from h))
theorem jxkp63 : jxcodeP 63 := fun pc i n h => jxkl63 pc (jxlt (len := 5) (t := _) (show jxc63 pc = some (i, n) from h))
theorem jxkp64 : jxcodeP 64 := fun pc i n h => jxkl64 pc (jxlt (len := 5) (t := _) (show jxc64 pc = some (i, n) from h))
theorem jxkp65 : jxcodeP 65 := fun pc i n h => jxkl65 pc (jxlt (len := 24) (t := _) (show jxc65 pc = some (i, n) from h))
theorem jxkp66 : jxcodeP 66 := fun pc i n h => jxkl66 pc (jxlt (len := 83) (t := _) (show jxc66 pc = some (i, n) from h))
theorem jxkp67 : jxcodeP 67 := fun pc i n h => jxkl67 pc (jxlt (len := 12) (t := _) (show jxc67 pc = some (i, n) from h))
theorem jxkp68 : jxcodeP 68 := fun pc i n h => jxkl68 pc (jxlt (len := 30) (t := _) (show jxc68 pc = some (i, n) from h))
theorem jxkp69 : jxcodeP 69 := fun pc i n h => jxkl69 pc (jxlt (len := 30) (t := _) (show jxc69 pc = some (i, n) from h))
theorem jxkp70 : jxcodeP 70 := fun pc i n h => jxkl70 pc (jxlt (len := 23) (t := _) (show jxc70 pc = some (i, n) from h))
theorem jxkp71 : jxcodeP 71 := fun pc i n h => jxkl71 pc (jxlt (len := 24) (t := _) (show jxc71 pc = some (i, n) from h))
theorem jxkp72 : jxcodeP 72 := fun pc i n h => jxkl72 pc (jxlt (len := 48) (t := _) (show jxc72 pc = some (i, n) from h))
theorem jxkp73 : jxcodeP 73 := fun pc i n h => jxkl73 pc (jxlt (len := 13) (t := _) (show jxc73 pc = some (i, n) from h))
theorem jxkp74 : jxcodeP 74 := fun pc i n h => jxkl74 pc (jxlt (len := 13) (t := _) (show jxc74 pc = some (i, n) from h))
theorem jxkp75 : jxcodeP 75 := fun pc i n h => jxkl75 pc (jxlt (len := 19) (t := _) (show jxc75 pc = some (i, n) from h))
theorem jxkp76 : jxcodeP 76 := fun pc i n h => jxkl76 pc (jxlt (len := 13) (t := _) (show jxc76 pc = some (i, n) from h))
theorem jxkp77 : jxcodeP 77 := fun pc i n h => jxkl77 pc (jxlt (len := 13) (t := _) (show jxc77 pc = some (i, n) from h))
theorem jxkp78 : jxcodeP 78 := fun pc i n h => jxkl78 pc (jxlt (len := 13) (t := _) (show jxc78 pc = some (i, n) from h))
theorem jxkp79 : jxcodeP 79 := fun pc i n h => jxkl79 pc (jxlt (len := 97) (t := _) (show jxc79 pc = some (i, n) from h))
theorem jxkp80 : jxcodeP 80 := fun pc i n h => jxkl80 pc (jxlt (len := 29) (t := _) (show jxc80 pc = some (i, n) from h))
theorem jxkp81 : jxcodeP 81 := fun pc i n h => jxkl81 pc (jxlt (len := 31) (t := _) (show jxc81 pc = some (i, n) from h))
theorem jxkp82 : jxcodeP 82 := fun pc i n h => jxkl82 pc (jxlt (len := 25) (t := _) (show jxc82 pc = some (i, n) from h))
theorem jxkp83 : jxcodeP 83 := fun pc i n h => jxkl83 pc (jxlt (len := 62) (t := _) (show jxc83 pc = some (i, n) from h))
theorem jxkp84 : jxcodeP 84 := fun pc i n h => jxkl84 pc (jxlt (len := 143) (t := _) (show jxc84 pc = some (i, n) from h))
theorem jxkp85 : jxcodeP 85 := fun pc i n h => jxkl85 pc (jxlt (len := 20) (t := _) (show jxc85 pc = some (i, n) from h))
theorem jxkp86 : jxcodeP 86 := fun pc i n h => jxkl86 pc (jxlt (len := 62) (t := _) (show jxc86 pc = some (i, n) from h))
theorem jxkp87 : jxcodeP 87 := fun pc i n h => jxkl87 pc (jxlt (len := 118) (t := _) (show jxc87 pc = some (i, n) from h))
theorem jxkp88 : jxcodeP 88 := fun pc i n h => jxkl88 pc (jxlt (len := 9) (t := _) (show jxc88 pc = some (i, n) from h))
theorem jxkp89 : jxcodeP 89 := fun pc i n h => jxkl89 pc (jxlt (len := 27) (t := _) (show jxc89 pc = some (i, n) from h))
theorem jxkp90 : jxcodeP 90 := fun pc i n h => jxkl90 pc (jxlt (len := 53) (t := _) (show jxc90 pc = some (i, n) from h))
theorem jxkp91 : jxcodeP 91 := fun pc i n h => jxkl91 pc (jxlt (len := 93) (t := _) (show jxc91 pc = some (i, n) from h))
theorem jxkp92 : jxcodeP 92 := fun pc i n h => jxkl92 pc (jxlt (len := 7) (t := _) (show jxc92 pc = some (i, n) from h))
theorem jxkp93 : jxcodeP 93 := fun pc i n h => jxkl93 pc (jxlt (len := 13) (t := _) (show jxc93 pc = some (i, n) from h))
theorem jxkp94 : jxcodeP 94 := fun pc i n h => jxkl94 pc (jxlt (len := 78) (t := _) (show jxc94 pc = some (i, n) from h))
theorem jxkp95 : jxcodeP 95 := fun pc i n h => jxkl95 pc (jxlt (len := 166) (t := _) (show jxc95 pc = some (i, n) from h))
theorem jxkp96 : jxcodeP 96 := fun pc i n h => jxkl96 pc (jxlt (len := 90) (t := _) (show jxc96 pc = some (i, n) from h))
theorem jxkp97 : jxcodeP 97 := fun pc i n h => jxkl97 pc (jxlt (len := 48) (t := _) (show jxc97 pc = some (i, n) from h))
theorem jxkp98 : jxcodeP 98 := fun pc i n h => jxkl98 pc (jxlt (len := 7) (t := _) (show jxc98 pc = some (i, n) from h))
theorem jxkp99 : jxcodeP 99 := fun pc i n h => jxkl99 pc (jxlt (len := 7) (t := _) (show jxc99 pc = some (i, n) from h))
theorem jxkp100 : jxcodeP 100 := fun pc i n h => jxkl100 pc (jxlt (len := 7) (t := _) (show jxc100 pc = some (i, n) from h))
theorem jxkp101 : jxcodeP 101 := fun pc i n h => jxkl101 pc (jxlt (len := 7) (t := _) (show jxc101 pc = some (i, n) from h))
theorem jxkp102 : jxcodeP 102 := fun pc i n h => jxkl102 pc (jxlt (len := 7) (t := _) (show jxc102 pc = some (i, n) from h))
theorem jxkp103 : jxcodeP 103 := fun pc i n h => jxkl103 pc (jxlt (len := 89) (t := _) (show jxc103 pc = some (i, n) from h))
theorem jxkp104 : jxcodeP 104 := fun pc i n h => jxkl104 pc (jxlt (len := 45) (t := _) (show jxc104 pc = some (i, n) from h))
theorem jxkp105 : jxcodeP 105 := fun pc i n h => jxkl105 pc (jxlt (len := 76) (t := _) (show jxc105 pc = some (i, n) from h))
theorem jxkp106 : jxcodeP 106 := fun pc i n h => jxkl106 pc (jxlt (len := 59) (t := _) (show jxc106 pc = some (i, n) from h))
theorem jxkp107 : jxcodeP 107 := fun pc i n h => jxkl107 pc (jxlt (len := 53) (t := _) (show jxc107 pc = some (i, n) from h))
theorem jxkp108 : jxcodeP 108 := fun pc i n h => jxkl108 pc (jxlt (len := 98) (t := _) (show jxc108 pc = some (i, n) from h))
theorem jxkp109 : jxcodeP 109 := fun pc i n h => jxkl109 pc (jxlt (len := 105) (t := _) (show jxc109 pc = some (i, n) from h))
theorem jxkp110 : jxcodeP 110 := fun pc i n h => jxkl110 pc (jxlt (len := 11) (t := _) (show jxc110 pc = some (i, n) from h))
theorem jxkp111 : jxcodeP 111 := fun pc i n h => jxkl111 pc (jxlt (len := 11) (t := _) (show jxc111 pc = some (i, n) from h))
theorem jxkp112 : jxcodeP 112 := fun pc i n h => jxkl112 pc (jxlt (len := 11) (t := _) (show jxc112 pc = some (i, n) from h))
theorem jxkp113 : jxcodeP 113 := fun pc i n h => jxkl113 pc (jxlt (len := 11) (t := _) (show jxc113 pc = some (i, n) from h))
theorem jxkp114 : jxcodeP 114 := fun pc i n h => jxkl114 pc (jxlt (len := 11) (t := _) (show jxc114 pc = some (i, n) from h))
theorem jxkp115 : jxcodeP 115 := fun pc i n h => jxkl115 pc (jxlt (len := 11) (t := _) (show jxc115 pc = some (i, n) from h))
theorem jxkp116 : jxcodeP 116 := fun pc i n h => jxkl116 pc (jxlt (len := 29) (t := _) (show jxc116 pc = some (i, n) from h))
theorem jxkp117 : jxcodeP 117 := fun pc i n h => jxkl117 pc (jxlt (len := 5) (t := _) (show jxc117 pc = some (i, n) from h))
theorem jxkp118 : jxcodeP 118 := fun pc i n h => jxkl118 pc (jxlt (len := 18) (t := _) (show jxc118 pc = some (i, n) from h))
theorem jxkp119 : jxcodeP 119 := fun pc i n h => jxkl119 pc (jxlt (len := 49) (t := _) (show jxc119 pc = some (i, n) from h))
theorem jxkp120 : jxcodeP 120 := fun pc i n h => jxkl120 pc (jxlt (len := 18) (t := _) (show jxc120 pc = some (i, n) from h))
theorem jxkp121 : jxcodeP 121 := fun pc i n h => jxkl121 pc (jxlt (len := 15) (t := _) (show jxc121 pc = some (i, n) from h))
theorem jxkp122 : jxcodeP 122 := fun pc i n h => jxkl122 pc (jxlt (len := 13) (t := _) (show jxc122 pc = some (i, n) from h))
theorem jxkp123 : jxcodeP 123 := fun pc i n h => jxkl123 pc (jxlt (len := 8) (t := _) (show jxc123 pc = some (i, n) from h))
theorem jxkp124 : jxcodeP 124 := fun pc i n h => jxkl124 pc (jxlt (len := 20) (t := _) (show jxc124 pc = some (i, n) from h))
theorem jxkp125 : jxcodeP 125 := fun pc i n h => jxkl125 pc (jxlt (len := 10) (t := _) (show jxc125 pc = some (i, n) from h))
theorem jxkp126 : jxcodeP 126 := fun pc i n h => jxkl126 pc (jxlt (len := 5) (t := _) (show jxc126 pc = some (i, n) from h))
theorem jxkp127 : jxcodeP 127 := fun pc i n h => jxkl127 pc (jxlt (len := 17) (t := _) (show jxc127 pc = some (i, n) from h))
theorem jxkp128 : jxcodeP 128 := fun pc i n h => jxkl128 pc (jxlt (len := 107) (t := _) (show jxc128 pc = some (i, n) from h))
theorem jxkp129 : jxcodeP 129 := fun pc i n h => jxkl129 pc (jxlt (len := 49) (t := _) (show jxc129 pc = some (i, n) from h))
theorem jxkp130 : jxcodeP 130 := fun pc i n h => jxkl130 pc (jxlt (len := 140) (t := _) (show jxc130 pc = some (i, n) from h))
theorem jxkp131 : jxcodeP 131 := fun pc i n h => jxkl131 pc (jxlt (len := 39) (t := _) (show jxc131 pc = some (i, n) from h))
theorem jxkp132 : jxcodeP 132 := fun pc i n h => jxkl132 pc (jxlt (len := 62) (t := _) (show jxc132 pc = some (i, n) from h))
theorem jxkp133 : jxcodeP 133 := fun pc i n h => jxkl133 pc (jxlt (len := 5) (t := _) (show jxc133 pc = some (i, n) from h))
theorem jxkp134 : jxcodeP 134 := fun pc i n h => jxkl134 pc (jxlt (len := 15) (t := _) (show jxc134 pc = some (i, n) from h))
theorem jxkp135 : jxcodeP 135 := fun pc i n h => jxkl135 pc (jxlt (len := 109) (t := _) (show jxc135 pc = some (i, n) from h))
theorem jxkp136 : jxcodeP 136 := fun pc i n h => jxkl136 pc (jxlt (len := 153) (t := _) (show jxc136 pc = some (i, n) from h))
theorem jxkp137 : jxcodeP 137 := fun pc i n h => jxkl137 pc (jxlt (len := 52) (t := _) (show jxc137 pc = some (i, n) from h))
theorem jxkp138 : jxcodeP 138 := fun pc i n h => jxkl138 pc (jxlt (len := 92) (t := _) (show jxc138 pc = some (i, n) from h))
theorem jxkp139 : jxcodeP 139 := fun pc i n h => jxkl139 pc (jxlt (len := 52) (t := _) (show jxc139 pc = some (i, n) from h))
theorem jxkp140 : jxcodeP 140 := fun pc i n h => jxkl140 pc (jxlt (len := 58) (t := _) (show jxc140 pc = some (i, n) from h))
theorem jxkp141 : jxcodeP 141 := fun pc i n h => jxkl141 pc (jxlt (len := 77) (t := _) (show jxc141 pc = some (i, n) from h))
theorem jxkp142 : jxcodeP 142 := fun pc i n h => jxkl142 pc (jxlt (len := 53) (t := _) (show jxc142 pc = some (i, n) from h))
theorem jxkp143 : jxcodeP 143 := fun pc i n h => jxkl143 pc (jxlt (len := 44) (t := _) (show jxc143 pc = some (i, n) from h))
theorem jxkp144 : jxcodeP 144 := fun pc i n h => jxkl144 pc (jxlt (len := 44) (t := _) (show jxc144 pc = some (i, n) from h))
theorem jxkp145 : jxcodeP 145 := fun pc i n h => jxkl145 pc (jxlt (len := 129) (t := _) (show jxc145 pc = some (i, n) from h))
theorem jxkp146 : jxcodeP 146 := fun pc i n h => jxkl146 pc (jxlt (len := 76) (t := _) (show jxc146 pc = some (i, n) from h))
theorem jxkp147 : jxcodeP 147 := fun pc i n h => jxkl147 pc (jxlt (len := 103) (t := _) (show jxc147 pc = some (i, n) from h))
theorem jxkp148 : jxcodeP 148 := fun pc i n h => jxkl148 pc (jxlt (len := 52) (t := _) (show jxc148 pc = some (i, n) from h))
theorem jxkp149 : jxcodeP 149 := fun pc i n h => jxkl149 pc (jxlt (len := 36) (t := _) (show jxc149 pc = some (i, n) from h))
theorem jxkp150 : jxcodeP 150 := fun pc i n h => jxkl150 pc (jxlt (len := 196) (t := _) (show jxc150 pc = some (i, n) from h))
theorem jxkp151 : jxcodeP 151 := fun pc i n h => jxkl151 pc (jxlt (len := 167) (t := _) (show jxc151 pc = some (i, n) from h))
theorem jxkp152 : jxcodeP 152 := fun pc i n h => jxkl152 pc (jxlt (len := 33) (t := _) (show jxc152 pc = some (i, n) from h))
theorem jxkp153 : jxcodeP 153 := fun pc i n h => jxkl153 pc (jxlt (len := 243) (t := _) (show jxc153 pc = some (i, n) from h))
theorem jxkp154 : jxcodeP 154 := fun pc i n h => jxkl154 pc (jxlt (len := 24) (t := _) (show jxc154 pc = some (i, n) from h))
theorem jxkp155 : jxcodeP 155 := fun pc i n h => jxkl155 pc (jxlt (len := 71) (t := _) (show jxc155 pc = some (i, n) from h))
theorem jxkp156 : jxcodeP 156 := fun pc i n h => jxkl156 pc (jxlt (len := 58) (t := _) (show jxc156 pc = some (i, n) from h))
theorem jxkp157 : jxcodeP 157 := fun pc i n h => jxkl157 pc (jxlt (len := 68) (t := _) (show jxc157 pc = some (i, n) from h))
theorem jxkp158 : jxcodeP 158 := fun pc i n h => jxkl158 pc (jxlt (len := 80) (t := _) (show jxc158 pc = some (i, n) from h))
theorem jxkp159 : jxcodeP 159 := fun pc i n h => jxkl159 pc (jxlt (len := 107) (t := _) (show jxc159 pc = some (i, n) from h))
theorem jxkp160 : jxcodeP 160 := fun pc i n h => jxkl160 pc (jxlt (len := 64) (t := _) (show jxc160 pc = some (i, n) from h))
theorem jxkp161 : jxcodeP 161 := fun pc i n h => jxkl161 pc (jxlt (len := 27) (t := _) (show jxc161 pc = some (i, n) from h))
theorem jxkp162 : jxcodeP 162 := fun pc i n h => jxkl162 pc (jxlt (len := 44) (t := _) (show jxc162 pc = some (i, n) from h))
theorem jxkp163 : jxcodeP 163 := fun pc i n h => jxkl163 pc (jxlt (len := 51) (t := _) (show jxc163 pc = some (i, n) from h))
theorem jxkp164 : jxcodeP 164 := fun pc i n h => jxkl164 pc (jxlt (len := 36) (t := _) (show jxc164 pc = some (i, n) from h))
theorem jxkp165 : jxcodeP 165 := fun pc i n h => jxkl165 pc (jxlt (len := 74) (t := _) (show jxc165 pc = some (i, n) from h))
theorem jxkp166 : jxcodeP 166 := fun pc i n h => jxkl166 pc (jxlt (len := 62) (t := _) (show jxc166 pc = some (i, n) from h))
theorem jxkp167 : jxcodeP 167 := fun pc i n h => jxkl167 pc (jxlt (len := 72) (t := _) (show jxc167 pc = some (i, n) from h))
theorem jxkp168 : jxcodeP 168 := fun pc i n h => jxkl168 pc (jxlt (len := 190) (t := _) (show jxc168 pc = some (i, n) from h))
theorem jxkp169 : jxcodeP 169 := fun pc i n h => jxkl169 pc (jxlt (len := 67) (t := _) (show jxc169 pc = some (i, n) from h))
theorem jxkp170 : jxcodeP 170 := fun pc i n h => jxkl170 pc (jxlt (len := 36) (t := _) (show jxc170 pc = some (i, n) from h))
theorem jxkp171 : jxcodeP 171 := fun pc i n h => jxkl171 pc (jxlt (len := 64) (t := _) (show jxc171 pc = some (i, n) from h))
theorem jxkp172 : jxcodeP 172 := fun pc i n h => jxkl172 pc (jxlt (len := 71) (t := _) (show jxc172 pc = some (i, n) from h))
theorem jxkp173 : jxcodeP 173 := fun pc i n h => jxkl173 pc (jxlt (len := 44) (t := _) (show jxc173 pc = some (i, n) from h))
theorem jxkp174 : jxcodeP 174 := fun pc i n h => jxkl174 pc (jxlt (len := 69) (t := _) (show jxc174 pc = some (i, n) from h))
theorem jxkp175 : jxcodeP 175 := fun pc i n h => jxkl175 pc (jxlt (len := 93) (t := _) (show jxc175 pc = some (i, n) from h))
theorem jxkp176 : jxcodeP 176 := fun pc i n h => jxkl176 pc (jxlt (len := 49) (t := _) (show jxc176 pc = some (i, n) from h))
theorem jxkp177 : jxcodeP 177 := fun pc i n h => jxkl177 pc (jxlt (len := 14) (t := _) (show jxc177 pc = some (i, n) from h))
theorem jxkp178 : jxcodeP 178 := fun pc i n h => jxkl178 pc (jxlt (len := 13) (t := _) (show jxc178 pc = some (i, n) from h))
theorem jxkp179 : jxcodeP 179 := fun pc i n h => jxkl179 pc (jxlt (len := 109) (t := _) (show jxc179 pc = some (i, n) from h))
theorem jxkp180 : jxcodeP 180 := fun pc i n h => jxkl180 pc (jxlt (len := 38) (t := _) (show jxc180 pc = some (i, n) from h))
theorem jxkp181 : jxcodeP 181 := fun pc i n h => jxkl181 pc (jxlt (len := 211) (t := _) (show jxc181 pc = some (i, n) from h))
theorem jxkp182 : jxcodeP 182 := fun pc i n h => jxkl182 pc (jxlt (len := 28) (t := _) (show jxc182 pc = some (i, n) from h))
theorem jxkp183 : jxcodeP 183 := fun pc i n h => jxkl183 pc (jxlt (len := 69) (t := _) (show jxc183 pc = some (i, n) from h))
theorem jxkp184 : jxcodeP 184 := fun pc i n h => jxkl184 pc (jxlt (len := 34) (t := _) (show jxc184 pc = some (i, n) from h))
theorem jxkp185 : jxcodeP 185 := fun pc i n h => jxkl185 pc (jxlt (len := 23) (t := _) (show jxc185 pc = some (i, n) from h))
theorem jxkp186 : jxcodeP 186 := fun pc i n h => jxkl186 pc (jxlt (len := 8) (t := _) (show jxc186 pc = some (i, n) from h))
theorem jxkp187 : jxcodeP 187 := fun pc i n h => jxkl187 pc (jxlt (len := 10) (t := _) (show jxc187 pc = some (i, n) from h))
theorem jxkp188 : jxcodeP 188 := fun pc i n h => jxkl188 pc (jxlt (len := 160) (t := _) (show jxc188 pc = some (i, n) from h))
theorem jxkp189 : jxcodeP 189 := fun pc i n h => jxkl189 pc (jxlt (len := 25) (t := _) (show jxc189 pc = some (i, n) from h))
theorem jxkp190 : jxcodeP 190 := fun pc i n h => jxkl190 pc (jxlt (len := 98) (t := _) (show jxc190 pc = some (i, n) from h))
theorem jxkp191 : jxcodeP 191 := fun pc i n h => jxkl191 pc (jxlt (len := 42) (t := _) (show jxc191 pc = some (i, n) from h))
theorem jxkp192 : jxcodeP 192 := fun pc i n h => jxkl192 pc (jxlt (len := 67) (t := _) (show jxc192 pc = some (i, n) from h))
theorem jxkp193 : jxcodeP 193 := fun pc i n h => jxkl193 pc (jxlt (len := 11) (t := _) (show jxc193 pc = some (i, n) from h))
theorem jxkp194 : jxcodeP 194 := fun pc i n h => jxkl194 pc (jxlt (len := 112) (t := _) (show jxc194 pc = some (i, n) from h))
theorem jxkp195 : jxcodeP 195 := fun pc i n h => jxkl195 pc (jxlt (len := 9) (t := _) (show jxc195 pc = some (i, n) from h))
theorem jxkp196 : jxcodeP 196 := fun pc i n h => jxkl196 pc (jxlt (len := 53) (t := _) (show jxc196 pc = some (i, n) from h))
theorem jxkp197 : jxcodeP 197 := fun pc i n h => jxkl197 pc (jxlt (len := 196) (t := _) (show jxc197 pc = some (i, n) from h))
theorem jxkp198 : jxcodeP 198 := fun pc i n h => jxkl198 pc (jxlt (len := 50) (t := _) (show jxc198 pc = some (i, n) from h))
theorem jxkp199 : jxcodeP 199 := fun pc i n h => jxkl199 pc (jxlt (len := 16) (t := _) (show jxc199 pc = some (i, n) from h))
theorem jxkp200 : jxcodeP 200 := fun pc i n h => jxkl200 pc (jxlt (len := 9) (t := _) (show jxc200 pc = some (i, n) from h))
theorem jxkp201 : jxcodeP 201 := fun pc i n h => jxkl201 pc (jxlt (len := 8) (t := _) (show jxc201 pc = some (i, n) from h))
theorem jxkp202 : jxcodeP 202 := fun pc i n h => jxkl202 pc (jxlt (len := 23) (t := _) (show jxc202 pc = some (i, n) from h))
theorem jxkp203 : jxcodeP 203 := fun pc i n h => jxkl203 pc (jxlt (len := 1079) (t := _) (show jxc203 pc = some (i, n) from h))
theorem jxkp204 : jxcodeP 204 := fun pc i n h => jxkl204 pc (jxlt (len := 16) (t := _) (show jxc204 pc = some (i, n) from h))
theorem jxkp205 : jxcodeP 205 := fun pc i n h => jxkl205 pc (jxlt (len := 9) (t := _) (show jxc205 pc = some (i, n) from h))
theorem jxkp206 : jxcodeP 206 := fun pc i n h => jxkl206 pc (jxlt (len := 8) (t := _) (show jxc206 pc = some (i, n) from h))
theorem jxkp207 : jxcodeP 207 := fun pc i n h => jxkl207 pc (jxlt (len := 12) (t := _) (show jxc207 pc = some (i, n) from h))
theorem jxkp208 : jxcodeP 208 := fun pc i n h => jxkl208 pc (jxlt (len := 23) (t := _) (show jxc208 pc = some (i, n) from h))
theorem jxkp209 : jxcodeP 209 := fun pc i n h => jxkl209 pc (jxlt (len := 71) (t := _) (show jxc209 pc = some (i, n) from h))
theorem jxkp210 : jxcodeP 210 := fun pc i n h => jxkl210 pc (jxlt (len := 108) (t := _) (show jxc210 pc = some (i, n) from h))
theorem jxkp211 : jxcodeP 211 := fun pc i n h => jxkl211 pc (jxlt (len := 37) (t := _) (show jxc211 pc = some (i, n) from h))
theorem jxkp212 : jxcodeP 212 := fun pc i n h => jxkl212 pc (jxlt (len := 47) (t := _) (show jxc212 pc = some (i, n) from h))
theorem jxkp213 : jxcodeP 213 := fun pc i n h => jxkl213 pc (jxlt (len := 21) (t := _) (show jxc213 pc = some (i, n) from h))
theorem jxkp214 : jxcodeP 214 := fun pc i n h => jxkl214 pc (jxlt (len := 21) (t := _) (show jxc214 pc = some (i, n) from h))
theorem jxkp215 : jxcodeP 215 := fun pc i n h => jxkl215 pc (jxlt (len := 67) (t := _) (show jxc215 pc = some (i, n) from h))
theorem jxkp216 : jxcodeP 216 := fun pc i n h => jxkl216 pc (jxlt (len := 202) (t := _) (show jxc216 pc = some (i, n) from h))
theorem jxkp217 : jxcodeP 217 := fun pc i n h => jxkl217 pc (jxlt (len := 162) (t := _) (show jxc217 pc = some (i, n) from h))
theorem jxkp218 : jxcodeP 218 := fun pc i n h => jxkl218 pc (jxlt (len := 21) (t := _) (show jxc218 pc = some (i, n) from h))
theorem jxkp219 : jxcodeP 219 := fun pc i n h => jxkl219 pc (jxlt (len := 49) (t := _) (show jxc219 pc = some (i, n) from h))
theorem jxkp220 : jxcodeP 220 := fun pc i n h => jxkl220 pc (jxlt (len := 131) (t := _) (show jxc220 pc = some (i, n) from h))
theorem jxkp221 : jxcodeP 221 := fun pc i n h => jxkl221 pc (jxlt (len := 41) (t := _) (show jxc221 pc = some (i, n) from h))
theorem jxkp222 : jxcodeP 222 := fun pc i n h => jxkl222 pc (jxlt (len := 67) (t := _) (show jxc222 pc = some (i, n) from h))
theorem jxkp223 : jxcodeP 223 := fun pc i n h => jxkl223 pc (jxlt (len := 116) (t := _) (show jxc223 pc = some (i, n) from h))
theorem jxkp224 : jxcodeP 224 := fun pc i n h => jxkl224 pc (jxlt (len := 196) (t := _) (show jxc224 pc = some (i, n) from h))
theorem jxkp225 : jxcodeP 225 := fun pc i n h => jxkl225 pc (jxlt (len := 125) (t := _) (show jxc225 pc = some (i, n) from h))
theorem jxkp226 : jxcodeP 226 := fun pc i n h => jxkl226 pc (jxlt (len := 204) (t := _) (show jxc226 pc = some (i, n) from h))
theorem jxkp227 : jxcodeP 227 := fun pc i n h => jxkl227 pc (jxlt (len := 185) (t := _) (show jxc227 pc = some (i, n) from h))
theorem jxkp228 : jxcodeP 228 := fun pc i n h => jxkl228 pc (jxlt (len := 40) (t := _) (show jxc228 pc = some (i, n) from h))
theorem jxkp229 : jxcodeP 229 := fun pc i n h => jxkl229 pc (jxlt (len := 30) (t := _) (show jxc229 pc = some (i, n) from h))
theorem jxkp230 : jxcodeP 230 := fun pc i n h => jxkl230 pc (jxlt (len := 39) (t := _) (show jxc230 pc = some (i, n) from h))
theorem jxkp231 : jxcodeP 231 := fun pc i n h => jxkl231 pc (jxlt (len := 37) (t := _) (show jxc231 pc = some (i, n) from h))
theorem jxkp232 : jxcodeP 232 := fun pc i n h => jxkl232 pc (jxlt (len := 329) (t := _) (show jxc232 pc = some (i, n) from h))
theorem jxkp233 : jxcodeP 233 := fun pc i n h => jxkl233 pc (jxlt (len := 85) (t := _) (show jxc233 pc = some (i, n) from h))
theorem jxkp234 : jxcodeP 234 := fun pc i n h => jxkl234 pc (jxlt (len := 99) (t := _) (show jxc234 pc = some (i, n) from h))
theorem jxkp235 : jxcodeP 235 := fun pc i n h => jxkl235 pc (jxlt (len := 14) (t := _) (show jxc235 pc = some (i, n) from h))
theorem jxkp236 : jxcodeP 236 := fun pc i n h => jxkl236 pc (jxlt (len := 22) (t := _) (show jxc236 pc = some (i, n) from h))
theorem jxkp237 : jxcodeP 237 := fun pc i n h => jxkl237 pc (jxlt (len := 50) (t := _) (show jxc237 pc = some (i, n) from h))
theorem jxkp238 : jxcodeP 238 := fun pc i n h => jxkl238 pc (jxlt (len := 189) (t := _) (show jxc238 pc = some (i, n) from h))
theorem jxkp239 : jxcodeP 239 := fun pc i n h => jxkl239 pc (jxlt (len := 68) (t := _) (show jxc239 pc = some (i, n) from h))
theorem jxkp240 : jxcodeP 240 := fun pc i n h => jxkl240 pc (jxlt (len := 152) (t := _) (show jxc240 pc = some (i, n) from h))
theorem jxkp241 : jxcodeP 241 := fun pc i n h => jxkl241 pc (jxlt (len := 46) (t := _) (show jxc241 pc = some (i, n) from h))
theorem jxkp242 : jxcodeP 242 := fun pc i n h => jxkl242 pc (jxlt (len := 46) (t := _) (show jxc242 pc = some (i, n) from h))
theorem jxkp243 : jxcodeP 243 := fun pc i n h => jxkl243 pc (jxlt (len := 46) (t := _) (show jxc243 pc = some (i, n) from h))
theorem jxkp244 : jxcodeP 244 := fun pc i n h => jxkl244 pc (jxlt (len := 51) (t := _) (show jxc244 pc = some (i, n) from h))
theorem jxkp245 : jxcodeP 245 := fun pc i n h => jxkl245 pc (jxlt (len := 25) (t := _) (show jxc245 pc = some (i, n) from h))
theorem jxkp246 : jxcodeP 246 := fun pc i n h => jxkl246 pc (jxlt (len := 56) (t := _) (show jxc246 pc = some (i, n) from h))
theorem jxkp247 : jxcodeP 247 := fun pc i n h => jxkl247 pc (jxlt (len := 35) (t := _) (show jxc247 pc = some (i, n) from h))
theorem jxkp248 : jxcodeP 248 := fun pc i n h => jxkl248 pc (jxlt (len := 98) (t := _) (show jxc248 pc = some (i, n) from h))
theorem jxkp249 : jxcodeP 249 := fun pc i n h => jxkl249 pc (jxlt (len := 35) (t := _) (show jxc249 pc = some (i, n) from h))
theorem jxkp250 : jxcodeP 250 := fun pc i n h => jxkl250 pc (jxlt (len := 47) (t := _) (show jxc250 pc = some (i, n) from h))
theorem jxkp251 : jxcodeP 251 := fun pc i n h => jxkl251 pc (jxlt (len := 186) (t := _) (show jxc251 pc = some (i, n) from h))
theorem jxkp252 : jxcodeP 252 := fun pc i n h => jxkl252 pc (jxlt (len := 72) (t := _) (show jxc252 pc = some (i, n) from h))
theorem jxkp253 : jxcodeP 253 := fun pc i n h => jxkl253 pc (jxlt (len := 233) (t := _) (show jxc253 pc = some (i, n) from h))
theorem jxkp254 : jxcodeP 254 := fun pc i n h => jxkl254 pc (jxlt (len := 155) (t := _) (show jxc254 pc = some (i, n) from h))
theorem jxkp255 : jxcodeP 255 := fun pc i n h => jxkl255 pc (jxlt (len := 270) (t := _) (show jxc255 pc = some (i, n) from h))
theorem jxkp256 : jxcodeP 256 := fun pc i n h => jxkl256 pc (jxlt (len := 54) (t := _) (show jxc256 pc = some (i, n) from h))
theorem jxkp257 : jxcodeP 257 := fun pc i n h => jxkl257 pc (jxlt (len := 61) (t := _) (show jxc257 pc = some (i, n) from h))
theorem jxkp258 : jxcodeP 258 := fun pc i n h => jxkl258 pc (jxlt (len := 68) (t := _) (show jxc258 pc = some (i, n) from h))
theorem jxkp259 : jxcodeP 259 := fun pc i n h => jxkl259 pc (jxlt (len := 114) (t := _) (show jxc259 pc = some (i, n) from h))
theorem jxkp260 : jxcodeP 260 := fun pc i n h => jxkl260 pc (jxlt (len := 170) (t := _) (show jxc260 pc = some (i, n) from h))
theorem jxkp261 : jxcodeP 261 := fun pc i n h => jxkl261 pc (jxlt (len := 64) (t := _) (show jxc261 pc = some (i, n) from h))
theorem jxkp262 : jxcodeP 262 := fun pc i n h => jxkl262 pc (jxlt (len := 95) (t := _) (show jxc262 pc = some (i, n) from h))
theorem jxkp263 : jxcodeP 263 := fun pc i n h => jxkl263 pc (jxlt (len := 34) (t := _) (show jxc263 pc = some (i, n) from h))
theorem jxkp264 : jxcodeP 264 := fun pc i n h => jxkl264 pc (jxlt (len := 35) (t := _) (show jxc264 pc = some (i, n) from h))
theorem jxkp265 : jxcodeP 265 := fun pc i n h => jxkl265 pc (jxlt (len := 61) (t := _) (show jxc265 pc = some (i, n) from h))
theorem jxkp266 : jxcodeP 266 := fun pc i n h => jxkl266 pc (jxlt (len := 77) (t := _) (show jxc266 pc = some (i, n) from h))
theorem jxkp267 : jxcodeP 267 := fun pc i n h => jxkl267 pc (jxlt (len := 130) (t := _) (show jxc267 pc = some (i, n) from h))
theorem jxkp268 : jxcodeP 268 := fun pc i n h => jxkl268 pc (jxlt (len := 26) (t := _) (show jxc268 pc = some (i, n) from h))
theorem jxkp269 : jxcodeP 269 := fun pc i n h => jxkl269 pc (jxlt (len := 18) (t := _) (show jxc269 pc = some (i, n) from h))
theorem jxkp270 : jxcodeP 270 := fun pc i n h => jxkl270 pc (jxlt (len := 29) (t := _) (show jxc270 pc = some (i, n) from h))
theorem jxkp271 : jxcodeP 271 := fun pc i n h => jxkl271 pc (jxlt (len := 239) (t := _) (show jxc271 pc = some (i, n) from h))
theorem jxkp272 : jxcodeP 272 := fun pc i n h => jxkl272 pc (jxlt (len := 203) (t := _) (show jxc272 pc = some (i, n) from h))
theorem jxkp273 : jxcodeP 273 := fun pc i n h => jxkl273 pc (jxlt (len := 45) (t := _) (show jxc273 pc = some (i, n) from h))
theorem jxkp274 : jxcodeP 274 := fun pc i n h => jxkl274 pc (jxlt (len := 173) (t := _) (show jxc274 pc = some (i, n) from h))
theorem jxkp275 : jxcodeP 275 := fun pc i n h => jxkl275 pc (jxlt (len := 40) (t := _) (show jxc275 pc = some (i, n) from h))
theorem jxkp276 : jxcodeP 276 := fun pc i n h => jxkl276 pc (jxlt (len := 50) (t := _) (show jxc276 pc = some (i, n) from h))
theorem jxkp277 : jxcodeP 277 := fun pc i n h => jxkl277 pc (jxlt (len := 70) (t := _) (show jxc277 pc = some (i, n) from h))
theorem jxkp278 : jxcodeP 278 := fun pc i n h => jxkl278 pc (jxlt (len := 46) (t := _) (show jxc278 pc = some (i, n) from h))
theorem jxkp279 : jxcodeP 279 := fun pc i n h => jxkl279 pc (jxlt (len := 155) (t := _) (show jxc279 pc = some (i, n) from h))
theorem jxkp280 : jxcodeP 280 := fun pc i n h => jxkl280 pc (jxlt (len := 89) (t := _) (show jxc280 pc = some (i, n) from h))
theorem jxkp281 : jxcodeP 281 := fun pc i n h => jxkl281 pc (jxlt (len := 173) (t := _) (show jxc281 pc = some (i, n) from h))
theorem jxkp282 : jxcodeP 282 := fun pc i n h => jxkl282 pc (jxlt (len := 202) (t := _) (show jxc282 pc = some (i, n) from h))
theorem jxkp283 : jxcodeP 283 := fun pc i n h => jxkl283 pc (jxlt (len := 185) (t := _) (show jxc283 pc = some (i, n) from h))
theorem jxkp284 : jxcodeP 284 := fun pc i n h => jxkl284 pc (jxlt (len := 47) (t := _) (show jxc284 pc = some (i, n) from h))
theorem jxkp285 : jxcodeP 285 := fun pc i n h => jxkl285 pc (jxlt (len := 49) (t := _) (show jxc285 pc = some (i, n) from h))
theorem jxkp286 : jxcodeP 286 := fun pc i n h => jxkl286 pc (jxlt (len := 157) (t := _) (show jxc286 pc = some (i, n) from h))
theorem jxkp287 : jxcodeP 287 := fun pc i n h => jxkl287 pc (jxlt (len := 257) (t := _) (show jxc287 pc = some (i, n) from h))
theorem jxkp288 : jxcodeP 288 := fun pc i n h => jxkl288 pc (jxlt (len := 28) (t := _) (show jxc288 pc = some (i, n) from h))
theorem jxkp289 : jxcodeP 289 := fun pc i n h => jxkl289 pc (jxlt (len := 203) (t := _) (show jxc289 pc = some (i, n) from h))
theorem jxkp290 : jxcodeP 290 := fun pc i n h => jxkl290 pc (jxlt (len := 53) (t := _) (show jxc290 pc = some (i, n) from h))
theorem jxkp291 : jxcodeP 291 := fun pc i n h => jxkl291 pc (jxlt (len := 11) (t := _) (show jxc291 pc = some (i, n) from h))
theorem jxkp292 : jxcodeP 292 := fun pc i n h => jxkl292 pc (jxlt (len := 11) (t := _) (show jxc292 pc = some (i, n) from h))
theorem jxkp293 : jxcodeP 293 := fun pc i n h => jxkl293 pc (jxlt (len := 12) (t := _) (show jxc293 pc = some (i, n) from h))
theorem jxkp294 : jxcodeP 294 := fun pc i n h => jxkl294 pc (jxlt (len := 11) (t := _) (show jxc294 pc = some (i, n) from h))
theorem jxkp295 : jxcodeP 295 := fun pc i n h => jxkl295 pc (jxlt (len := 25) (t := _) (show jxc295 pc = some (i, n) from h))
theorem jxkp296 : jxcodeP 296 := fun pc i n h => jxkl296 pc (jxlt (len := 15) (t := _) (show jxc296 pc = some (i, n) from h))
theorem jxkp297 : jxcodeP 297 := fun pc i n h => jxkl297 pc (jxlt (len := 19) (t := _) (show jxc297 pc = some (i, n) from h))
theorem jxkp298 : jxcodeP 298 := fun pc i n h => jxkl298 pc (jxlt (len := 10) (t := _) (show jxc298 pc = some (i, n) from h))
theorem jxkp299 : jxcodeP 299 := fun pc i n h => jxkl299 pc (jxlt (len := 15) (t := _) (show jxc299 pc = some (i, n) from h))
theorem jxkp300 : jxcodeP 300 := fun pc i n h => jxkl300 pc (jxlt (len := 60) (t := _) (show jxc300 pc = some (i, n) from h))
theorem jxkp301 : jxcodeP 301 := fun pc i n h => jxkl301 pc (jxlt (len := 5) (t := _) (show jxc301 pc = some (i, n) from h))
theorem jxkp302 : jxcodeP 302 := fun pc i n h => jxkl302 pc (jxlt (len := 11) (t := _) (show jxc302 pc = some (i, n) from h))
theorem jxkp303 : jxcodeP 303 := fun pc i n h => jxkl303 pc (jxlt (len := 9) (t := _) (show jxc303 pc = some (i, n) from h))
theorem jxkp304 : jxcodeP 304 := fun pc i n h => jxkl304 pc (jxlt (len := 18) (t := _) (show jxc304 pc = some (i, n) from h))
theorem jxkp305 : jxcodeP 305 := fun pc i n h => jxkl305 pc (jxlt (len := 1197) (t := _) (show jxc305 pc = some (i, n) from h))
theorem jxcodeA34 : ∀ y, y < 34 → jxcodeP y := lt_s (lt_s (lt_s (lt_s (lt_s (lt_s (lt_s (lt_s (lt_s (lt_s (lt_s (lt_s (lt_s (lt_s (lt_s (lt_s (lt_s (lt_s (lt_s (lt_s (lt_s (lt_s (lt_s (lt_s (lt_s (lt_s (lt_s (lt_s (lt_s (lt_s (lt_s (lt_s (lt_s (lt_s (lt_0) jxkp0) jxkp1) jxkp2) jxkp3) jxkp4) jxkp5) jxkp6) jxkp7) jxkp8) jxkp9) jxkp10) jxkp11) jxkp12) jxkp13) jxkp14) jxkp15) jxkp16) jxkp17) jxkp18) jxkp19) jxkp20) jxkp21) jxkp22) jxkp23) jxkp24) jxkp25) jxkp26) jxkp27) jxkp28) jxkp29) jxkp30) jxkp31) jxkp32) jxkp33
theorem jxcodeA68 : ∀ y, y < 68 → jxcodeP y := lt_s (lt_s (lt_s (lt_s (lt_s (lt_s (lt_s (lt_s (lt_s (lt_s (lt_s (lt_s (lt_s (lt_s (lt_s (lt_s (lt_s (lt_s (lt_s (lt_s (lt_s (lt_s (lt_s (lt_s (lt_s (lt_s (lt_s (lt_s (lt_s (lt_s (lt_s (lt_s (lt_s (lt_s (jxcodeA34) jxkp34) jxkp35) jxkp36) jxkp37) jxkp38) jxkp39) jxkp40) jxkp41) jxkp42) jxkp43) jxkp44) jxkp45) jxkp46) jxkp47) jxkp48) jxkp49) jxkp50) jxkp51) jxkp52) jxkp53) jxkp54) jxkp55) jxkp56) jxkp57) jxkp58) jxkp59) jxkp60) jxkp61) jxkp62) jxkp63) jxkp64) jxkp65) jxkp66) jxkp67
theorem jxcodeA102 : ∀ y, y < 102 → jxcodeP y := lt_s (lt_s (lt_s (lt_s (lt_s (lt_s (lt_s (lt_s (lt_s (lt_s (lt_s (lt_s (lt_s (lt_s (lt_s (lt_s (lt_s (lt_s (lt_s (lt_s (lt_s (lt_s (lt_s (lt_s (lt_s (lt_s (lt_s (lt_s (lt_s (lt_s (lt_s (lt_s (lt_s (lt_s (jxcodeA68) jxkp68) jxkp69) jxkp70) jxkp71) jxkp72) jxkp73) jxkp74) jxkp75) jxkp76) jxkp77) jxkp78) jxkp79) jxkp80) jxkp81) jxkp82) jxkp83) jxkp84) jxkp85) jxkp86) jxkp87) jxkp88) jxkp89) jxkp90) jxkp91) jxkp92) jxkp93) jxkp94) jxkp95) jxkp96) jxkp97) jxkp98) jxkp99) jxkp100) jxkp101
theorem jxcodeA136 : ∀ y, y < 136 → jxcodeP y := lt_s (lt_s (lt_s (lt_s (lt_s (lt_s (lt_s (lt_s (lt_s (lt_s (lt_s (lt_s (lt_s (lt_s (lt_s (lt_s (lt_s (lt_s (lt_s (lt_s (lt_s (lt_s (lt_s (lt_s (lt_s (lt_s (lt_s (lt_s (lt_s (lt_s (lt_s (lt_s (lt_s (lt_s (jxcodeA102) jxkp102) jxkp103) jxkp104) jxkp105) jxkp106) jxkp107) jxkp108) jxkp109) jxkp110) jxkp111) jxkp112) jxkp113) jxkp114) jxkp115) jxkp116) jxkp117) jxkp118) jxkp119) jxkp120) jxkp121) jxkp122) jxkp123) jxkp124) jxkp125) jxkp126) jxkp127) jxkp128) jxkp129) jxkp130) jxkp131) jxkp132) jxkp133) jxkp134) jxkp135
theorem jxcodeA170 : ∀ y, y < 170 → jxcodeP y := lt_s (lt_s (lt_s (lt_s (lt_s (lt_s (lt_s (lt_s (lt_s (lt_s (lt_s (lt_s (lt_s (lt_s (lt_s (lt_s (lt_s (lt_s (lt_s (lt_s (lt_s (lt_s (lt_s (lt_s (lt_s (lt_s (lt_s (lt_s (lt_s (lt_s (lt_s (lt_s (lt_s (lt_s (jxcodeA136) jxkp136) jxkp137) jxkp138) jxkp139) jxkp140) jxkp141) jxkp142) jxkp143) jxkp144) jxkp145) jxkp146) jxkp147) jxkp148) jxkp149) jxkp150) jxkp151) jxkp152) jxkp153) jxkp154) jxkp155) jxkp156) jxkp157) jxkp158) jxkp159) jxkp160) jxkp161) jxkp162) jxkp163) jxkp164) jxkp165) jxkp166) jxkp167) jxkp168) jxkp169
theorem jxcodeA204 : ∀ y, y < 204 → jxcodeP y := lt_s (lt_s (lt_s (lt_s (lt_s (lt_s (lt_s (lt_s (lt_s (lt_s (lt_s (lt_s (lt_s (lt_s (lt_s (lt_s (lt_s (lt_s (lt_s (lt_s (lt_s (lt_s (lt_s (lt_s (lt_s (lt_s (lt_s (lt_s (lt_s (lt_s (lt_s (lt_s (lt_s (lt_s (jxcodeA170) jxkp170) jxkp171) jxkp172) jxkp173) jxkp174) jxkp175) jxkp176) jxkp177) jxkp178) jxkp179) jxkp180) jxkp181) jxkp182) jxkp183) jxkp184) jxkp185) jxkp186) jxkp187) jxkp188) jxkp189) jxkp190) jxkp191) jxkp192) jxkp193) jxkp194) jxkp195) jxkp196) jxkp197) jxkp198) jxkp199) jxkp200) jxkp201) jxkp202) jxkp203
theorem jxcodeA238 : ∀ y, y < 238 → jxcodeP y := lt_s (lt_s (lt_s (lt_s (lt_s (lt_s (lt_s (lt_s (lt_s (lt_s (lt_s (lt_s (lt_s (lt_s (lt_s (lt_s (lt_s (lt_s (lt_s (lt_s (lt_s (lt_s (lt_s (lt_s (lt_s (lt_s (lt_s (lt_s (lt_s (lt_s (lt_s (lt_s (lt_s (lt_s (jxcodeA204) jxkp204) jxkp205) jxkp206) jxkp207) jxkp208) jxkp209) jxkp210) jxkp211) jxkp212) jxkp213) jxkp214) jxkp215) jxkp216) jxkp217) jxkp218) jxkp219) jxkp220) jxkp221) jxkp222) jxkp223) jxkp224) jxkp225) jxkp226) jxkp227) jxkp228) jxkp229) jxkp230) jxkp231) jxkp232) jxkp233) jxkp234) jxkp235) jxkp236) jxkp237
theorem jxcodeA272 : ∀ y, y < 272 → jxcodeP y := lt_s (lt_s (lt_s (lt_s (lt_s (lt_s (lt_s (lt_s (lt_s (lt_s (lt_s (lt_s (lt_s (lt_s (lt_s (lt_s (lt_s (lt_s (lt_s (lt_s (lt_s (lt_s (lt_s (lt_s (lt_s (lt_s (lt_s (lt_s (lt_s (lt_s (lt_s (lt_s (lt_s (lt_s (jxcodeA238) jxkp238) jxkp239) jxkp240) jxkp241) jxkp242) jxkp243) jxkp244) jxkp245) jxkp246) jxkp247) jxkp248) jxkp249) jxkp250) jxkp251) jxkp252) jxkp253) jxkp254) jxkp255) jxkp256) jxkp257) jxkp258) jxkp259) jxkp260) jxkp261) jxkp262) jxkp263) jxkp264) jxkp265) jxkp266) jxkp267) jxkp268) jxkp269) jxkp270) jxkp271
theorem jxcodeA306 : ∀ y, y < 306 → jxcodeP y := lt_s (lt_s (lt_s (lt_s (lt_s (lt_s (lt_s (lt_s (lt_s (lt_s (lt_s (lt_s (lt_s (lt_s (lt_s (lt_s (lt_s (lt_s (lt_s (lt_s (lt_s (lt_s (lt_s (lt_s (lt_s (lt_s (lt_s (lt_s (lt_s (lt_s (lt_s (lt_s (lt_s (lt_s (jxcodeA272) jxkp272) jxkp273) jxkp274) jxkp275) jxkp276) jxkp277) jxkp278) jxkp279) jxkp280) jxkp281) jxkp282) jxkp283) jxkp284) jxkp285) jxkp286) jxkp287) jxkp288) jxkp289) jxkp290) jxkp291) jxkp292) jxkp293) jxkp294) jxkp295) jxkp296) jxkp297) jxkp298) jxkp299) jxkp300) jxkp301) jxkp302) jxkp303) jxkp304) jxkp305
theorem jxcode_ok {y : Nat} (hy : y < 306) {pc : Nat} {i : Instr} {k : Nat} (h : jxcode y pc = some (i, k)) : decode (jxcd y) pc = .ok (i, k) ∧ jxiok i k = true := by
  have h1 := jxcodeA306 y hy pc i k h
  unfold jxchkp at h1
  rw [h] at h1
  simpa only [Bool.and_eq_true, decide_eq_true_eq] using h1
