/-! Tables of the small machine, by program (wip/whole/tools/gen.py) out of the Statement: classes and fields, methods, linked code. -/
def xR : Nat → String := fun c => match c with
  | 0 => "MajorityMap$Campaign"
  | 1 => "MajorityMap$Client"
  | 2 => "MajorityMap$Commands"
  | 3 => "MajorityMap$Message"
  | 4 => "MajorityMap$Net"
  | 5 => "MajorityMap$Replica"
  | 6 => "MajorityMap$Request"
  | 7 => "MajorityMap$State"
  | 8 => "MajorityMap$Votes"
  | 9 => "MajorityMap"
  | 10 => "MajorityMapModel"
  | 11 => "java/lang/Integer"
  | 12 => "java/lang/Long"
  | 13 => "java/lang/Math"
  | 14 => "java/util/Arrays"
  | _ => ""
def xT0 : u_T := fun k => match k with
  | 0 => ("MajorityMap$Campaign", "ballot", "I", false)
  | 1 => ("MajorityMap$Campaign", "supporters", "I", false)
  | 2 => ("MajorityMap$Campaign", "collected", "LMajorityMap$Votes;", true)
  | 3 => ("MajorityMap$Campaign", "proposed", "LMajorityMap$Commands;", true)
  | _ => ("MajorityMap$Campaign", "voters", "[I", true)
def xy0 : Nat → FieldType := fun k => match k with
  | 0 => .int
  | 1 => .int
  | 2 => .object "MajorityMap$Votes"
  | 3 => .object "MajorityMap$Commands"
  | _ => .array .int
def xT1 : u_T := fun k => match k with
  | 0 => ("MajorityMap$Client", "requests", "[LMajorityMap$Request;", true)
  | _ => ("MajorityMap$Client", "count", "I", false)
def xy1 : Nat → FieldType := fun k => match k with
  | 0 => .array (.object "MajorityMap$Request")
  | _ => .int
def xT2 : u_T := fun k => match k with
  | _ => ("MajorityMap$Commands", "commands", "[I", true)
def xy2 : Nat → FieldType := fun k => match k with
  | _ => .array .int
def xT3 : u_T := fun k => match k with
  | 0 => ("MajorityMap$Message", "kind", "I", true)
  | 1 => ("MajorityMap$Message", "from", "I", true)
  | 2 => ("MajorityMap$Message", "to", "I", true)
  | 3 => ("MajorityMap$Message", "ballot", "I", true)
  | 4 => ("MajorityMap$Message", "slot", "I", true)
  | 5 => ("MajorityMap$Message", "command", "I", true)
  | 6 => ("MajorityMap$Message", "votes", "LMajorityMap$Votes;", true)
  | _ => ("MajorityMap$Message", "state", "LMajorityMap$State;", true)
def xy3 : Nat → FieldType := fun k => match k with
  | 0 => .int
  | 1 => .int
  | 2 => .int
  | 3 => .int
  | 4 => .int
  | 5 => .int
  | 6 => .object "MajorityMap$Votes"
  | _ => .object "MajorityMap$State"
def xT4 : u_T := fun k => match k with
  | 0 => ("MajorityMap$Net", "messages", "[LMajorityMap$Message;", true)
  | _ => ("MajorityMap$Net", "count", "I", false)
def xy4 : Nat → FieldType := fun k => match k with
  | 0 => .array (.object "MajorityMap$Message")
  | _ => .int
def xT5 : u_T := fun k => match k with
  | 0 => ("MajorityMap$Replica", "id", "I", true)
  | 1 => ("MajorityMap$Replica", "client", "LMajorityMap$Client;", true)
  | 2 => ("MajorityMap$Replica", "net", "LMajorityMap$Net;", true)
  | 3 => ("MajorityMap$Replica", "up", "Z", false)
  | 4 => ("MajorityMap$Replica", "promised", "I", false)
  | 5 => ("MajorityMap$Replica", "votes", "LMajorityMap$Votes;", true)
  | 6 => ("MajorityMap$Replica", "snapshot", "LMajorityMap$State;", false)
  | 7 => ("MajorityMap$Replica", "present", "LMajorityMap$State;", false)
  | 8 => ("MajorityMap$Replica", "known", "LMajorityMap$Commands;", true)
  | _ => ("MajorityMap$Replica", "campaign", "LMajorityMap$Campaign;", true)
def xy5 : Nat → FieldType := fun k => match k with
  | 0 => .int
  | 1 => .object "MajorityMap$Client"
  | 2 => .object "MajorityMap$Net"
  | 3 => .boolean
  | 4 => .int
  | 5 => .object "MajorityMap$Votes"
  | 6 => .object "MajorityMap$State"
  | 7 => .object "MajorityMap$State"
  | 8 => .object "MajorityMap$Commands"
  | _ => .object "MajorityMap$Campaign"
def xT6 : u_T := fun k => match k with
  | 0 => ("MajorityMap$Request", "kind", "I", true)
  | 1 => ("MajorityMap$Request", "key", "I", true)
  | 2 => ("MajorityMap$Request", "v", "I", true)
  | 3 => ("MajorityMap$Request", "latestAnswer", "I", false)
  | _ => ("MajorityMap$Request", "timesAnswered", "I", false)
def xy6 : Nat → FieldType := fun k => match k with
  | 0 => .int
  | 1 => .int
  | 2 => .int
  | 3 => .int
  | _ => .int
def xT7 : u_T := fun k => match k with
  | 0 => ("MajorityMap$State", "slot", "I", true)
  | 1 => ("MajorityMap$State", "values", "[I", true)
  | 2 => ("MajorityMap$State", "answers", "[I", true)
  | 3 => ("MajorityMap$State", "done", "J", false)
  | 4 => ("MajorityMap$State", "newestMembers", "I", false)
  | 5 => ("MajorityMap$State", "middleMembers", "I", true)
  | _ => ("MajorityMap$State", "oldestMembers", "I", true)
def xy7 : Nat → FieldType := fun k => match k with
  | 0 => .int
  | 1 => .array .int
  | 2 => .array .int
  | 3 => .long
  | 4 => .int
  | 5 => .int
  | _ => .int
def xT8 : u_T := fun k => match k with
  | 0 => ("MajorityMap$Votes", "ballots", "[I", true)
  | _ => ("MajorityMap$Votes", "commands", "[I", true)
def xy8 : Nat → FieldType := fun k => match k with
  | 0 => .array .int
  | _ => .array .int
def xT9 : u_T := fun k => match k with
  | 0 => ("MajorityMap", "client", "LMajorityMap$Client;", true)
  | 1 => ("MajorityMap", "net", "LMajorityMap$Net;", true)
  | _ => ("MajorityMap", "replicas", "[LMajorityMap$Replica;", true)
def xy9 : Nat → FieldType := fun k => match k with
  | 0 => .object "MajorityMap$Client"
  | 1 => .object "MajorityMap$Net"
  | _ => .array (.object "MajorityMap$Replica")
def xT10 : u_T := fun k => match k with
  | 0 => ("MajorityMapModel", "requests", "I", false)
  | 1 => ("MajorityMapModel", "kindOf", "[I", true)
  | 2 => ("MajorityMapModel", "keyOf", "[I", true)
  | 3 => ("MajorityMapModel", "numberOf", "[I", true)
  | 4 => ("MajorityMapModel", "heardOf", "[I", true)
  | 5 => ("MajorityMapModel", "replyOf", "[I", true)
  | 6 => ("MajorityMapModel", "chosen", "[I", true)
  | 7 => ("MajorityMapModel", "up", "I", false)
  | 8 => ("MajorityMapModel", "promised", "[I", true)
  | 9 => ("MajorityMapModel", "floor", "[I", true)
  | 10 => ("MajorityMapModel", "executed", "[I", true)
  | 11 => ("MajorityMapModel", "known", "[I", true)
  | 12 => ("MajorityMapModel", "voteBallot", "[I", true)
  | 13 => ("MajorityMapModel", "voteCommand", "[I", true)
  | 14 => ("MajorityMapModel", "ballot", "[I", true)
  | 15 => ("MajorityMapModel", "heardFrom", "[I", true)
  | 16 => ("MajorityMapModel", "takenBallot", "[I", true)
  | 17 => ("MajorityMapModel", "takenCommand", "[I", true)
  | 18 => ("MajorityMapModel", "offered", "[I", true)
  | 19 => ("MajorityMapModel", "voters", "[I", true)
  | 20 => ("MajorityMapModel", "waits", "I", false)
  | 21 => ("MajorityMapModel", "put", "I", false)
  | 22 => ("MajorityMapModel", "mKind", "[I", true)
  | 23 => ("MajorityMapModel", "mFrom", "[I", true)
  | 24 => ("MajorityMapModel", "mTo", "[I", true)
  | 25 => ("MajorityMapModel", "mBallot", "[I", true)
  | 26 => ("MajorityMapModel", "mNumber", "[I", true)
  | 27 => ("MajorityMapModel", "mCommand", "[I", true)
  | 28 => ("MajorityMapModel", "mUpTo", "[I", true)
  | 29 => ("MajorityMapModel", "mVoteBallot", "[I", true)
  | 30 => ("MajorityMapModel", "mVoteCommand", "[I", true)
  | 31 => ("MajorityMapModel", "from", "I", false)
  | 32 => ("MajorityMapModel", "bearing", "I", false)
  | 33 => ("MajorityMapModel", "number", "I", false)
  | 34 => ("MajorityMapModel", "command", "I", false)
  | 35 => ("MajorityMapModel", "upTo", "I", false)
  | 36 => ("MajorityMapModel", "cameBallot", "[I", true)
  | 37 => ("MajorityMapModel", "cameCommand", "[I", true)
  | 38 => ("MajorityMapModel", "values", "[I", true)
  | 39 => ("MajorityMapModel", "done", "[Z", true)
  | 40 => ("MajorityMapModel", "answers", "[I", true)
  | _ => ("MajorityMapModel", "members", "[I", true)
def xy10 : Nat → FieldType := fun k => match k with
  | 0 => .int
  | 1 => .array .int
  | 2 => .array .int
  | 3 => .array .int
  | 4 => .array .int
  | 5 => .array .int
  | 6 => .array .int
  | 7 => .int
  | 8 => .array .int
  | 9 => .array .int
  | 10 => .array .int
  | 11 => .array .int
  | 12 => .array .int
  | 13 => .array .int
  | 14 => .array .int
  | 15 => .array .int
  | 16 => .array .int
  | 17 => .array .int
  | 18 => .array .int
  | 19 => .array .int
  | 20 => .int
  | 21 => .int
  | 22 => .array .int
  | 23 => .array .int
  | 24 => .array .int
  | 25 => .array .int
  | 26 => .array .int
  | 27 => .array .int
  | 28 => .array .int
  | 29 => .array .int
  | 30 => .array .int
  | 31 => .int
  | 32 => .int
  | 33 => .int
  | 34 => .int
  | 35 => .int
  | 36 => .array .int
  | 37 => .array .int
  | 38 => .array .int
  | 39 => .array .boolean
  | 40 => .array .int
  | _ => .array .int
def xT : Nat → u_T := fun c => match c with
  | 0 => xT0
  | 1 => xT1
  | 2 => xT2
  | 3 => xT3
  | 4 => xT4
  | 5 => xT5
  | 6 => xT6
  | 7 => xT7
  | 8 => xT8
  | 9 => xT9
  | 10 => xT10
  | _ => fun _ => ("", "", "", false)
def xy : Nat → (Nat → FieldType) := fun c => match c with
  | 0 => xy0
  | 1 => xy1
  | 2 => xy2
  | 3 => xy3
  | 4 => xy4
  | 5 => xy5
  | 6 => xy6
  | 7 => xy7
  | 8 => xy8
  | 9 => xy9
  | 10 => xy10
  | _ => fun _ => .int
def xN : Nat → Nat := fun c => match c with
  | 0 => 5
  | 1 => 2
  | 2 => 1
  | 3 => 8
  | 4 => 2
  | 5 => 10
  | 6 => 5
  | 7 => 7
  | 8 => 2
  | 9 => 3
  | 10 => 42
  | _ => 0
def xcl : List vw_C := [(xR 0, xT 0, xN 0), (xR 1, xT 1, xN 1), (xR 2, xT 2, xN 2), (xR 3, xT 3, xN 3), (xR 4, xT 4, xN 4), (xR 5, xT 5, xN 5), (xR 6, xT 6, xN 6), (xR 7, xT 7, xN 7), (xR 8, xT 8, xN 8), (xR 9, xT 9, xN 9), (xR 10, xT 10, xN 10)]
/-- element types of arrays: int, boolean, three classes -/
def x_ty : Nat → FieldType := fun t => match t with
  | 0 => .int
  | 1 => .boolean
  | 2 => .object (xR 6)
  | 3 => .object (xR 3)
  | _ => .object (xR 5)
def x_ec : Nat → Nat := fun t => match t with
  | 2 => 6
  | 3 => 3
  | 4 => 5
  | _ => 99
def x_kB : Nat := 142
/-- methods: name, code, locals, what is returned, class -/
def x_mL : List (MethodName × Nat × Option FieldType × Nat) := [
  (⟨"MajorityMap$Campaign", "<init>", "()V"⟩, 1, none, 0),
  (⟨"MajorityMap$Campaign", "propose", "(II)V"⟩, 3, none, 0),
  (⟨"MajorityMap$Campaign", "addVoter", "(II)V"⟩, 3, none, 0),
  (⟨"MajorityMap$Campaign", "votersFor", "(I)I"⟩, 2, some .int, 0),
  (⟨"MajorityMap$Campaign", "begin", "(IILMajorityMap$Votes;)V"⟩, 4, none, 0),
  (⟨"MajorityMap$Campaign", "end", "()V"⟩, 1, none, 0),
  (⟨"MajorityMap$Client", "<init>", "()V"⟩, 1, none, 1),
  (⟨"MajorityMap$Client", "add", "(LMajorityMap$Request;)I"⟩, 2, some .int, 1),
  (⟨"MajorityMap$Client", "find", "(I)LMajorityMap$Request;"⟩, 2, some (.object "MajorityMap$Request"), 1),
  (⟨"MajorityMap$Client", "hear", "(II)V"⟩, 4, none, 1),
  (⟨"MajorityMap$Commands", "<init>", "()V"⟩, 1, none, 2),
  (⟨"MajorityMap$Commands", "hasCommandAbove", "(II)Z"⟩, 4, some .boolean, 2),
  (⟨"MajorityMap$Commands", "at", "(I)I"⟩, 2, some .int, 2),
  (⟨"MajorityMap$Commands", "has", "(I)Z"⟩, 2, some .boolean, 2),
  (⟨"MajorityMap$Commands", "put", "(II)V"⟩, 3, none, 2),
  (⟨"MajorityMap$Commands", "forgetUpTo", "(I)V"⟩, 3, none, 2),
  (⟨"MajorityMap$Commands", "hasAbove", "(I)Z"⟩, 3, some .boolean, 2),
  (⟨"MajorityMap$Message", "<init>", "(IIIIII)V"⟩, 7, none, 3),
  (⟨"MajorityMap$Message", "<init>", "(IIIILMajorityMap$Votes;LMajorityMap$State;)V"⟩, 7, none, 3),
  (⟨"MajorityMap$Message", "number", "()I"⟩, 1, some .int, 3),
  (⟨"MajorityMap$Message", "load", "()I"⟩, 1, some .int, 3),
  (⟨"MajorityMap$Net", "<init>", "()V"⟩, 1, none, 4),
  (⟨"MajorityMap$Net", "put", "(LMajorityMap$Message;)Z"⟩, 2, some .boolean, 4),
  (⟨"MajorityMap$Net", "size", "()I"⟩, 1, some .int, 4),
  (⟨"MajorityMap$Net", "take", "(I)LMajorityMap$Message;"⟩, 4, some (.object "MajorityMap$Message"), 4),
  (⟨"MajorityMap$Net", "at", "(I)LMajorityMap$Message;"⟩, 2, some (.object "MajorityMap$Message"), 4),
  (⟨"MajorityMap$Replica", "<init>", "(ILMajorityMap$Client;LMajorityMap$Net;LMajorityMap$State;)V"⟩, 5, none, 5),
  (⟨"MajorityMap$Replica", "takeRequest", "(I)I"⟩, 4, some .int, 5),
  (⟨"MajorityMap$Replica", "campaigns", "()Z"⟩, 1, some .boolean, 5),
  (⟨"MajorityMap$Replica", "firstOpenAhead", "()I"⟩, 3, some .int, 5),
  (⟨"MajorityMap$Replica", "isOpen", "(I)Z"⟩, 2, some .boolean, 5),
  (⟨"MajorityMap$Replica", "isSupportedFor", "(I)Z"⟩, 2, some .boolean, 5),
  (⟨"MajorityMap$Replica", "propose", "(II)V"⟩, 4, none, 5),
  (⟨"MajorityMap$Replica", "others", "()I"⟩, 1, some .int, 5),
  (⟨"MajorityMap$Replica", "sendToEach", "(IIIII)V"⟩, 7, none, 5),
  (⟨"MajorityMap$Replica", "strike", "()V"⟩, 2, none, 5),
  (⟨"MajorityMap$Replica", "repeatProposals", "()V"⟩, 4, none, 5),
  (⟨"MajorityMap$Replica", "leastBallotAbove", "(I)I"⟩, 3, some .int, 5),
  (⟨"MajorityMap$Replica", "receive", "(LMajorityMap$Message;)V"⟩, 3, none, 5),
  (⟨"MajorityMap$Replica", "onPrepare", "(LMajorityMap$Message;)V"⟩, 2, none, 5),
  (⟨"MajorityMap$Replica", "refuse", "(I)V"⟩, 2, none, 5),
  (⟨"MajorityMap$Replica", "onPromise", "(LMajorityMap$Message;)Z"⟩, 2, some .boolean, 5),
  (⟨"MajorityMap$Replica", "install", "(LMajorityMap$State;)V"⟩, 2, none, 5),
  (⟨"MajorityMap$Replica", "keepSnapshot", "(LMajorityMap$State;)I"⟩, 3, some .int, 5),
  (⟨"MajorityMap$Replica", "onAccept", "(LMajorityMap$Message;)V"⟩, 2, none, 5),
  (⟨"MajorityMap$Replica", "onVoted", "(LMajorityMap$Message;)Z"⟩, 4, some .boolean, 5),
  (⟨"MajorityMap$Replica", "onLearn", "(LMajorityMap$Message;)Z"⟩, 2, some .boolean, 5),
  (⟨"MajorityMap$Replica", "onFetch", "(LMajorityMap$Message;)V"⟩, 2, none, 5),
  (⟨"MajorityMap$Replica", "goOn", "()V"⟩, 4, none, 5),
  (⟨"MajorityMap$Replica", "execute", "(I)V"⟩, 2, none, 5),
  (⟨"MajorityMap$Replica", "commandDueFor", "(I)I"⟩, 3, some .int, 5),
  (⟨"MajorityMap$Replica", "goDown", "()V"⟩, 1, none, 5),
  (⟨"MajorityMap$Replica", "leads", "()Z"⟩, 1, some .boolean, 5),
  (⟨"MajorityMap$Request", "<init>", "(III)V"⟩, 4, none, 6),
  (⟨"MajorityMap$State", "<init>", "()V"⟩, 1, none, 7),
  (⟨"MajorityMap$State", "isDone", "(I)Z"⟩, 2, some .boolean, 7),
  (⟨"MajorityMap$State", "answerOf", "(I)I"⟩, 2, some .int, 7),
  (⟨"MajorityMap$State", "membershipOf", "(I)I"⟩, 2, some .int, 7),
  (⟨"MajorityMap$State", "membersAhead", "()I"⟩, 1, some .int, 7),
  (⟨"MajorityMap$State", "after", "(ILMajorityMap$Request;)LMajorityMap$State;"⟩, 4, some (.object "MajorityMap$State"), 7),
  (⟨"MajorityMap$State", "<init>", "(LMajorityMap$State;)V"⟩, 2, none, 7),
  (⟨"MajorityMap$State", "act", "(ILMajorityMap$Request;)V"⟩, 4, none, 7),
  (⟨"MajorityMap$State", "countDone", "()I"⟩, 1, some .int, 7),
  (⟨"MajorityMap$Votes", "<init>", "()V"⟩, 1, none, 8),
  (⟨"MajorityMap$Votes", "put", "(III)V"⟩, 4, none, 8),
  (⟨"MajorityMap$Votes", "forgetUpTo", "(I)V"⟩, 3, none, 8),
  (⟨"MajorityMap$Votes", "merge", "(LMajorityMap$Votes;)V"⟩, 3, none, 8),
  (⟨"MajorityMap$Votes", "ballotOf", "(I)I"⟩, 2, some .int, 8),
  (⟨"MajorityMap$Votes", "has", "(I)Z"⟩, 2, some .boolean, 8),
  (⟨"MajorityMap$Votes", "commandOf", "(I)I"⟩, 2, some .int, 8),
  (⟨"MajorityMap$Votes", "duplicate", "()LMajorityMap$Votes;"⟩, 2, some (.object "MajorityMap$Votes"), 8),
  (⟨"MajorityMap$Votes", "countUpTo", "(I)I"⟩, 4, some .int, 8),
  (⟨"MajorityMap$Votes", "hasAbove", "(I)Z"⟩, 3, some .boolean, 8),
  (⟨"MajorityMap", "<init>", "()V"⟩, 3, none, 9),
  (⟨"MajorityMap", "ask", "(III)I"⟩, 4, some .int, 9),
  (⟨"MajorityMap", "isMembership", "(I)Z"⟩, 1, some .boolean, 9),
  (⟨"MajorityMap", "send", "(II)I"⟩, 3, some .int, 9),
  (⟨"MajorityMap", "isReplica", "(I)Z"⟩, 1, some .boolean, 9),
  (⟨"MajorityMap", "isSlot", "(I)Z"⟩, 1, some .boolean, 9),
  (⟨"MajorityMap", "holdsMajority", "(II)Z"⟩, 2, some .boolean, 9),
  (⟨"MajorityMap", "timer", "(I)I"⟩, 3, some .int, 9),
  (⟨"MajorityMap", "deliver", "(I)I"⟩, 5, some .int, 9),
  (⟨"MajorityMap", "drop", "(I)Z"⟩, 2, some .boolean, 9),
  (⟨"MajorityMap", "copy", "(I)Z"⟩, 3, some .boolean, 9),
  (⟨"MajorityMap", "crash", "(I)Z"⟩, 2, some .boolean, 9),
  (⟨"MajorityMap", "restart", "(I)Z"⟩, 2, some .boolean, 9),
  (⟨"MajorityMap", "cut", "(I)I"⟩, 2, some .int, 9),
  (⟨"MajorityMap", "fetch", "(II)Z"⟩, 3, some .boolean, 9),
  (⟨"MajorityMap", "waiting", "()I"⟩, 1, some .int, 9),
  (⟨"MajorityMap", "message", "(II)I"⟩, 4, some .int, 9),
  (⟨"MajorityMap", "look", "(II)I"⟩, 4, some .int, 9),
  (⟨"MajorityMap", "value", "(II)I"⟩, 3, some .int, 9),
  (⟨"MajorityMap", "vote", "(II)I"⟩, 4, some .int, 9),
  (⟨"MajorityMap", "reply", "(I)I"⟩, 3, some .int, 9),
  (⟨"MajorityMap", "heard", "(I)I"⟩, 3, some .int, 9),
  (⟨"MajorityMapModel", "<init>", "()V"⟩, 2, none, 10),
  (⟨"MajorityMapModel", "ask", "(III)I"⟩, 4, some .int, 10),
  (⟨"MajorityMapModel", "count", "(I)I"⟩, 3, some .int, 10),
  (⟨"MajorityMapModel", "send", "(II)I"⟩, 7, some .int, 10),
  (⟨"MajorityMapModel", "replica", "(I)Z"⟩, 1, some .boolean, 10),
  (⟨"MajorityMapModel", "isUp", "(I)Z"⟩, 2, some .boolean, 10),
  (⟨"MajorityMapModel", "replay", "(I)V"⟩, 4, none, 10),
  (⟨"MajorityMapModel", "act", "(II)I"⟩, 5, some .int, 10),
  (⟨"MajorityMapModel", "hear", "(I)V"⟩, 2, none, 10),
  (⟨"MajorityMapModel", "campaigns", "(I)Z"⟩, 2, some .boolean, 10),
  (⟨"MajorityMapModel", "knows", "(II)Z"⟩, 3, some .boolean, 10),
  (⟨"MajorityMapModel", "membersOf", "(II)I"⟩, 3, some .int, 10),
  (⟨"MajorityMapModel", "majority", "(II)Z"⟩, 2, some .boolean, 10),
  (⟨"MajorityMapModel", "propose", "(III)V"⟩, 5, none, 10),
  (⟨"MajorityMapModel", "cast", "(IIII)V"⟩, 5, none, 10),
  (⟨"MajorityMapModel", "mailAll", "(IIIIII)V"⟩, 8, none, 10),
  (⟨"MajorityMapModel", "mail", "(IIIIII)V"⟩, 9, none, 10),
  (⟨"MajorityMapModel", "timer", "(I)I"⟩, 7, some .int, 10),
  (⟨"MajorityMapModel", "begin", "(I)V"⟩, 4, none, 10),
  (⟨"MajorityMapModel", "deliver", "(I)I"⟩, 5, some .int, 10),
  (⟨"MajorityMapModel", "remove", "(I)V"⟩, 3, none, 10),
  (⟨"MajorityMapModel", "move", "(II)V"⟩, 4, none, 10),
  (⟨"MajorityMapModel", "receive", "(II)V"⟩, 3, none, 10),
  (⟨"MajorityMapModel", "onPrepare", "(I)V"⟩, 2, none, 10),
  (⟨"MajorityMapModel", "onPromise", "(I)V"⟩, 4, none, 10),
  (⟨"MajorityMapModel", "install", "(II)V"⟩, 3, none, 10),
  (⟨"MajorityMapModel", "forget", "(II)I"⟩, 5, some .int, 10),
  (⟨"MajorityMapModel", "goOn", "(I)V"⟩, 5, none, 10),
  (⟨"MajorityMapModel", "above", "(II)Z"⟩, 5, some .boolean, 10),
  (⟨"MajorityMapModel", "onAccept", "(I)V"⟩, 2, none, 10),
  (⟨"MajorityMapModel", "onVoted", "(I)V"⟩, 5, none, 10),
  (⟨"MajorityMapModel", "onLearn", "(I)V"⟩, 2, none, 10),
  (⟨"MajorityMapModel", "drop", "(I)Z"⟩, 2, some .boolean, 10),
  (⟨"MajorityMapModel", "copy", "(I)Z"⟩, 2, some .boolean, 10),
  (⟨"MajorityMapModel", "crash", "(I)Z"⟩, 2, some .boolean, 10),
  (⟨"MajorityMapModel", "restart", "(I)Z"⟩, 2, some .boolean, 10),
  (⟨"MajorityMapModel", "cut", "(I)I"⟩, 2, some .int, 10),
  (⟨"MajorityMapModel", "fetch", "(II)Z"⟩, 3, some .boolean, 10),
  (⟨"MajorityMapModel", "waiting", "()I"⟩, 1, some .int, 10),
  (⟨"MajorityMapModel", "message", "(II)I"⟩, 3, some .int, 10),
  (⟨"MajorityMapModel", "load", "(I)I"⟩, 4, some .int, 10),
  (⟨"MajorityMapModel", "look", "(II)I"⟩, 5, some .int, 10),
  (⟨"MajorityMapModel", "value", "(II)I"⟩, 3, some .int, 10),
  (⟨"MajorityMapModel", "vote", "(II)I"⟩, 4, some .int, 10),
  (⟨"MajorityMapModel", "reply", "(I)I"⟩, 2, some .int, 10),
  (⟨"MajorityMapModel", "heard", "(I)I"⟩, 2, some .int, 10),
  (⟨"java/lang/Integer", "bitCount", "(I)I"⟩, 1, some .int, 11),
  (⟨"java/lang/Long", "bitCount", "(J)I"⟩, 2, some .int, 12),
  (⟨"java/lang/Math", "floorDiv", "(II)I"⟩, 3, some .int, 13),
  (⟨"java/lang/Math", "max", "(II)I"⟩, 2, some .int, 13),
  (⟨"java/util/Arrays", "fill", "([II)V"⟩, 4, none, 14)]
def x_m (k : Nat) : MethodName × Nat × Option FieldType × Nat := (x_mL[k]?).getD (⟨"", "", ""⟩, 0, none, 0)
def x_nL (k : Nat) : Nat := (x_m k).2.1
def x_rkL : List Nat := [0, 0, 0, 1, 0, 0, 0, 1, 3, 0, 0, 2, 1, 2, 0, 0, 2, 0, 0, 1, 1, 0, 2, 1, 3, 3, 0, 1, 2, 1, 2, 2, 0, 1, 0, 0, 0, 1, 0, 0, 0, 2, 0, 1, 0, 2, 2, 0, 0, 0, 1, 0, 2, 0, 0, 2, 1, 1, 1, 3, 0, 0, 1, 0, 0, 0, 0, 1, 2, 1, 3, 1, 2, 0, 1, 2, 1, 2, 2, 2, 1, 1, 2, 2, 2, 2, 1, 2, 1, 1, 1, 1, 1, 1, 1, 0, 1, 1, 1, 2, 2, 0, 1, 0, 2, 2, 1, 2, 0, 0, 0, 0, 1, 0, 1, 0, 0, 0, 0, 0, 0, 1, 0, 2, 0, 0, 0, 2, 2, 2, 2, 1, 2, 1, 1, 1, 1, 1, 1, 1, 1, 1, 1, 1, 1, 0]
def x_rk (k : Nat) : Nat := (x_rkL[k]?).getD 9
def x_bL : List ByteArray := [prog_2_method_1_code, prog_2_method_4_code, prog_2_method_5_code, prog_2_method_6_code, prog_2_method_2_code, prog_2_method_3_code, prog_3_method_1_code, prog_3_method_2_code, prog_3_method_3_code, prog_3_method_4_code, prog_4_method_1_code, prog_4_method_6_code, prog_4_method_3_code, prog_4_method_2_code, prog_4_method_4_code, prog_4_method_7_code, prog_4_method_5_code, prog_5_method_1_code, prog_5_method_2_code, prog_5_method_3_code, prog_5_method_4_code, prog_6_method_1_code, prog_6_method_4_code, prog_6_method_2_code, prog_6_method_5_code, prog_6_method_3_code, prog_7_method_1_code, prog_7_method_10_code, prog_7_method_2_code, prog_7_method_11_code, prog_7_method_5_code, prog_7_method_4_code, prog_7_method_16_code, prog_7_method_6_code, prog_7_method_15_code, prog_7_method_12_code, prog_7_method_14_code, prog_7_method_13_code, prog_7_method_17_code, prog_7_method_19_code, prog_7_method_18_code, prog_7_method_20_code, prog_7_method_9_code, prog_7_method_8_code, prog_7_method_21_code, prog_7_method_22_code, prog_7_method_23_code, prog_7_method_24_code, prog_7_method_25_code, prog_7_method_26_code, prog_7_method_27_code, prog_7_method_7_code, prog_7_method_3_code, prog_8_method_1_code, prog_9_method_1_code, prog_9_method_5_code, prog_9_method_6_code, prog_9_method_8_code, prog_9_method_9_code, prog_9_method_3_code, prog_9_method_2_code, prog_9_method_4_code, prog_9_method_7_code, prog_10_method_1_code, prog_10_method_5_code, prog_10_method_8_code, prog_10_method_9_code, prog_10_method_3_code, prog_10_method_2_code, prog_10_method_4_code, prog_10_method_10_code, prog_10_method_7_code, prog_10_method_6_code, prog_1_method_1_code, prog_1_method_2_code, prog_1_method_21_code, prog_1_method_3_code, prog_1_method_19_code, prog_1_method_20_code, prog_1_method_22_code, prog_1_method_4_code, prog_1_method_5_code, prog_1_method_6_code, prog_1_method_7_code, prog_1_method_8_code, prog_1_method_9_code, prog_1_method_10_code, prog_1_method_11_code, prog_1_method_12_code, prog_1_method_13_code, prog_1_method_14_code, prog_1_method_15_code, prog_1_method_16_code, prog_1_method_17_code, prog_1_method_18_code, prog_12_method_1_code, prog_12_method_28_code, prog_12_method_5_code, prog_12_method_29_code, prog_12_method_26_code, prog_12_method_27_code, prog_12_method_2_code, prog_12_method_3_code, prog_12_method_9_code, prog_12_method_7_code, prog_12_method_8_code, prog_12_method_4_code, prog_12_method_6_code, prog_12_method_17_code, prog_12_method_16_code, prog_12_method_11_code, prog_12_method_10_code, prog_12_method_30_code, prog_12_method_31_code, prog_12_method_32_code, prog_12_method_13_code, prog_12_method_12_code, prog_12_method_25_code, prog_12_method_20_code, prog_12_method_21_code, prog_12_method_15_code, prog_12_method_14_code, prog_12_method_19_code, prog_12_method_18_code, prog_12_method_22_code, prog_12_method_23_code, prog_12_method_24_code, prog_12_method_33_code, prog_12_method_34_code, prog_12_method_35_code, prog_12_method_36_code, prog_12_method_37_code, prog_12_method_38_code, prog_12_method_39_code, prog_12_method_40_code, prog_12_method_41_code, prog_12_method_42_code, prog_12_method_43_code, prog_12_method_44_code, prog_12_method_45_code, prog_12_method_46_code, prog_14_method_49_code, prog_15_method_50_code, prog_16_method_47_code, prog_16_method_65_code, prog_17_method_103_code]
def x_b (k : Nat) : ByteArray := (x_bL[k]?).getD ⟨#[]⟩
