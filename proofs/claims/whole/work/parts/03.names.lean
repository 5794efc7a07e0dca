def RX0 : String := "Inglenook$Event"
def TX0 : u_T := fun k => match k with
  | 0 => ("Inglenook$Event", "kind", "C", true)
  | 1 => ("Inglenook$Event", "user", "I", true)
  | 2 => ("Inglenook$Event", "room", "I", true)
  | 3 => ("Inglenook$Event", "rank", "I", true)
  | _ => ("Inglenook$Event", "letters", "I", true)
def tyX0 : Nat → FieldType := fun k => match k with
  | 0 => .char
  | 1 => .int
  | 2 => .int
  | 3 => .int
  | _ => .int
abbrev wsX00 : List Cond := u_ws RX0 TX0 5
theorem nmX0 : ∀ a, a < 5 → ∀ b, b < 5 → a ≠ b → (TX0 a).2.1 ≠ (TX0 b).2.1 := by decide +kernel
theorem tyX0_ok : ∀ k, k < 5 → parseFieldDescriptor (TX0 k).2.2.1 = some (tyX0 k) := by decide +kernel
abbrev cX0_init : ByteArray := prog_2_method_1_code
def yX0_init : MethodName := ⟨RX0, "<init>", "(CIIII)V"⟩
def RX8 : String := "Inglenook$Member"
def TX8 : u_T := fun k => match k with
  | 0 => ("Inglenook$Member", "user", "LInglenook$User;", true)
  | _ => ("Inglenook$Member", "mark", "I", false)
def tyX8 : Nat → FieldType := fun k => match k with
  | 0 => .object "Inglenook$User"
  | _ => .int
abbrev wsX80 : List Cond := u_ws RX8 TX8 2
theorem nmX8 : ∀ a, a < 2 → ∀ b, b < 2 → a ≠ b → (TX8 a).2.1 ≠ (TX8 b).2.1 := by decide +kernel
theorem tyX8_ok : ∀ k, k < 2 → parseFieldDescriptor (TX8 k).2.2.1 = some (tyX8 k) := by decide +kernel
abbrev cX8_init : ByteArray := prog_3_method_1_code
def yX8_init : MethodName := ⟨RX8, "<init>", "(LInglenook$User;I)V"⟩
def RX1 : String := "Inglenook$Message"
def TX1 : u_T := fun k => match k with
  | 0 => ("Inglenook$Message", "number", "I", true)
  | 1 => ("Inglenook$Message", "author", "LInglenook$User;", true)
  | 2 => ("Inglenook$Message", "room", "LInglenook$Room;", true)
  | 3 => ("Inglenook$Message", "rank", "I", true)
  | 4 => ("Inglenook$Message", "parent", "LInglenook$Message;", true)
  | 5 => ("Inglenook$Message", "time", "I", true)
  | 6 => ("Inglenook$Message", "depth", "I", true)
  | 7 => ("Inglenook$Message", "text", "LInglenook$Text;", true)
  | 8 => ("Inglenook$Message", "threadSize", "I", false)
  | 9 => ("Inglenook$Message", "mentionMask", "I", false)
  | 10 => ("Inglenook$Message", "edits", "I", false)
  | _ => ("Inglenook$Message", "removed", "Z", false)
def tyX1 : Nat → FieldType := fun k => match k with
  | 0 => .int
  | 1 => .object "Inglenook$User"
  | 2 => .object "Inglenook$Room"
  | 3 => .int
  | 4 => .object "Inglenook$Message"
  | 5 => .int
  | 6 => .int
  | 7 => .object "Inglenook$Text"
  | 8 => .int
  | 9 => .int
  | 10 => .int
  | _ => .boolean
abbrev wsX10 : List Cond := u_ws RX1 TX1 12
theorem nmX1 : ∀ a, a < 12 → ∀ b, b < 12 → a ≠ b → (TX1 a).2.1 ≠ (TX1 b).2.1 := by decide +kernel
theorem tyX1_ok : ∀ k, k < 12 → parseFieldDescriptor (TX1 k).2.2.1 = some (tyX1 k) := by decide +kernel
abbrev cX1_init : ByteArray := prog_4_method_1_code
def yX1_init : MethodName := ⟨RX1, "<init>", "(ILInglenook$User;LInglenook$Room;ILInglenook$Message;I)V"⟩
abbrev cX1_takeText : ByteArray := prog_4_method_2_code
def yX1_takeText : MethodName := ⟨RX1, "takeText", "(LInglenook$Text;)V"⟩
abbrev cX1_vanish : ByteArray := prog_4_method_3_code
def yX1_vanish : MethodName := ⟨RX1, "vanish", "()V"⟩
abbrev cX1_isMentioning : ByteArray := prog_4_method_4_code
def yX1_isMentioning : MethodName := ⟨RX1, "isMentioning", "(LInglenook$User;)Z"⟩
def RX2 : String := "Inglenook$Replay"
def TX2 : u_T := fun k => match k with
  | 0 => ("Inglenook$Replay", "authors", "[I", true)
  | 1 => ("Inglenook$Replay", "mentionMasks", "[I", true)
  | 2 => ("Inglenook$Replay", "removed", "[Z", true)
  | 3 => ("Inglenook$Replay", "reader", "I", false)
  | 4 => ("Inglenook$Replay", "count", "I", false)
  | 5 => ("Inglenook$Replay", "memberMask", "I", false)
  | _ => ("Inglenook$Replay", "mark", "I", false)
def tyX2 : Nat → FieldType := fun k => match k with
  | 0 => .array .int
  | 1 => .array .int
  | 2 => .array .boolean
  | 3 => .int
  | 4 => .int
  | 5 => .int
  | _ => .int
abbrev wsX20 : List Cond := u_ws RX2 TX2 7
theorem nmX2 : ∀ a, a < 7 → ∀ b, b < 7 → a ≠ b → (TX2 a).2.1 ≠ (TX2 b).2.1 := by decide +kernel
theorem tyX2_ok : ∀ k, k < 7 → parseFieldDescriptor (TX2 k).2.2.1 = some (tyX2 k) := by decide +kernel
abbrev cX2_init : ByteArray := prog_5_method_1_code
def yX2_init : MethodName := ⟨RX2, "<init>", "()V"⟩
abbrev cX2_start : ByteArray := prog_5_method_2_code
def yX2_start : MethodName := ⟨RX2, "start", "(I)V"⟩
abbrev cX2_follow : ByteArray := prog_5_method_3_code
def yX2_follow : MethodName := ⟨RX2, "follow", "(LInglenook$Event;)V"⟩
abbrev cX2_enter : ByteArray := prog_5_method_4_code
def yX2_enter : MethodName := ⟨RX2, "enter", "(LInglenook$Event;)V"⟩
abbrev cX2_append : ByteArray := prog_5_method_5_code
def yX2_append : MethodName := ⟨RX2, "append", "(LInglenook$Event;)V"⟩
abbrev cX2_change : ByteArray := prog_5_method_6_code
def yX2_change : MethodName := ⟨RX2, "change", "(LInglenook$Event;)V"⟩
abbrev cX2_strike : ByteArray := prog_5_method_7_code
def yX2_strike : MethodName := ⟨RX2, "strike", "(LInglenook$Event;)V"⟩
abbrev cX2_countUnread : ByteArray := prog_5_method_8_code
def yX2_countUnread : MethodName := ⟨RX2, "countUnread", "(Z)I"⟩
def RX3 : String := "Inglenook$Room"
def TX3 : u_T := fun k => match k with
  | 0 => ("Inglenook$Room", "number", "I", true)
  | 1 => ("Inglenook$Room", "members", "Ljava/util/ArrayList;", true)
  | _ => ("Inglenook$Room", "messages", "Ljava/util/ArrayList;", true)
def tyX3 : Nat → FieldType := fun k => match k with
  | 0 => .int
  | 1 => .object "java/util/ArrayList"
  | _ => .object "java/util/ArrayList"
abbrev wsX30 : List Cond := u_ws RX3 TX3 3
theorem nmX3 : ∀ a, a < 3 → ∀ b, b < 3 → a ≠ b → (TX3 a).2.1 ≠ (TX3 b).2.1 := by decide +kernel
theorem tyX3_ok : ∀ k, k < 3 → parseFieldDescriptor (TX3 k).2.2.1 = some (tyX3 k) := by decide +kernel
abbrev cX3_init : ByteArray := prog_6_method_1_code
def yX3_init : MethodName := ⟨RX3, "<init>", "(I)V"⟩
abbrev cX3_memberFor : ByteArray := prog_6_method_2_code
def yX3_memberFor : MethodName := ⟨RX3, "memberFor", "(LInglenook$User;)LInglenook$Member;"⟩
abbrev cX3_isOwnedBy : ByteArray := prog_6_method_3_code
def yX3_isOwnedBy : MethodName := ⟨RX3, "isOwnedBy", "(LInglenook$User;)Z"⟩
abbrev cX3_admit : ByteArray := prog_6_method_4_code
def nmX3_admit : String := match (lw_tbl[510]? : Option Cond) with
  | some (Cond.methodLink _ _ y) => y.name
  | _ => ""
def yX3_admit : MethodName := ⟨RX3, nmX3_admit, "(LInglenook$User;)V"⟩
abbrev cX3_dismiss : ByteArray := prog_6_method_5_code
def yX3_dismiss : MethodName := ⟨RX3, "dismiss", "(LInglenook$Member;)V"⟩
abbrev cX3_memberMask : ByteArray := prog_6_method_6_code
def yX3_memberMask : MethodName := ⟨RX3, "memberMask", "()I"⟩
abbrev cX3_countStanding : ByteArray := prog_6_method_7_code
def yX3_countStanding : MethodName := ⟨RX3, "countStanding", "()I"⟩
abbrev cX3_countUnread : ByteArray := prog_6_method_8_code
def yX3_countUnread : MethodName := ⟨RX3, "countUnread", "(LInglenook$Member;Z)I"⟩
def RX4 : String := "Inglenook$Text"
def TX4 : u_T := fun k => match k with
  | 0 => ("Inglenook$Text", "signs", "[C", true)
  | _ => ("Inglenook$Text", "size", "I", false)
def tyX4 : Nat → FieldType := fun k => match k with
  | 0 => .array .char
  | _ => .int
abbrev wsX40 : List Cond := u_ws RX4 TX4 2
theorem nmX4 : ∀ a, a < 2 → ∀ b, b < 2 → a ≠ b → (TX4 a).2.1 ≠ (TX4 b).2.1 := by decide +kernel
theorem tyX4_ok : ∀ k, k < 2 → parseFieldDescriptor (TX4 k).2.2.1 = some (tyX4 k) := by decide +kernel
abbrev cX4_init : ByteArray := prog_7_method_1_code
def yX4_init : MethodName := ⟨RX4, "<init>", "()V"⟩
abbrev cX4_put : ByteArray := prog_7_method_2_code
def yX4_put : MethodName := ⟨RX4, "put", "(IC)V"⟩
abbrev cX4_dropLast : ByteArray := prog_7_method_3_code
def yX4_dropLast : MethodName := ⟨RX4, "dropLast", "()C"⟩
abbrev cX4_signAt : ByteArray := prog_7_method_4_code
def yX4_signAt : MethodName := ⟨RX4, "signAt", "(I)C"⟩
abbrev cX4_turnRound : ByteArray := prog_7_method_5_code
def yX4_turnRound : MethodName := ⟨RX4, "turnRound", "()V"⟩
abbrev cX4_takeAllOf : ByteArray := prog_7_method_6_code
def yX4_takeAllOf : MethodName := ⟨RX4, "takeAllOf", "(LInglenook$Text;)V"⟩
abbrev cX4_drop : ByteArray := prog_7_method_7_code
def yX4_drop : MethodName := ⟨RX4, "drop", "()V"⟩
abbrev cX4_letterMask : ByteArray := prog_7_method_8_code
def yX4_letterMask : MethodName := ⟨RX4, "letterMask", "()I"⟩
def RX5 : String := "Inglenook$User"
def TX5 : u_T := fun k => match k with
  | 0 => ("Inglenook$User", "number", "I", true)
  | 1 => ("Inglenook$User", "draft", "LInglenook$Text;", true)
  | 2 => ("Inglenook$User", "tokens", "F", false)
  | _ => ("Inglenook$User", "lastSeen", "I", false)
def tyX5 : Nat → FieldType := fun k => match k with
  | 0 => .int
  | 1 => .object "Inglenook$Text"
  | 2 => .float
  | _ => .int
abbrev wsX50 : List Cond := u_ws RX5 TX5 4
theorem nmX5 : ∀ a, a < 4 → ∀ b, b < 4 → a ≠ b → (TX5 a).2.1 ≠ (TX5 b).2.1 := by decide +kernel
theorem tyX5_ok : ∀ k, k < 4 → parseFieldDescriptor (TX5 k).2.2.1 = some (tyX5 k) := by decide +kernel
abbrev cX5_init : ByteArray := prog_8_method_1_code
def yX5_init : MethodName := ⟨RX5, "<init>", "(II)V"⟩
abbrev cX5_gainTokens : ByteArray := prog_8_method_2_code
def yX5_gainTokens : MethodName := ⟨RX5, "gainTokens", "(F)V"⟩
abbrev cX5_bit : ByteArray := prog_8_method_3_code
def yX5_bit : MethodName := ⟨RX5, "bit", "()I"⟩
def RX6 : String := "Inglenook"
def TX6 : u_T := fun k => match k with
  | 0 => ("Inglenook", "allUsers", "Ljava/util/ArrayList;", true)
  | 1 => ("Inglenook", "allRooms", "Ljava/util/ArrayList;", true)
  | 2 => ("Inglenook", "allMessages", "Ljava/util/ArrayList;", true)
  | 3 => ("Inglenook", "log", "Ljava/util/ArrayList;", true)
  | 4 => ("Inglenook", "replay", "LInglenook$Replay;", true)
  | 5 => ("Inglenook", "now", "I", false)
  | _ => ("Inglenook", "refill", "I", false)
def tyX6 : Nat → FieldType := fun k => match k with
  | 0 => .object "java/util/ArrayList"
  | 1 => .object "java/util/ArrayList"
  | 2 => .object "java/util/ArrayList"
  | 3 => .object "java/util/ArrayList"
  | 4 => .object "Inglenook$Replay"
  | 5 => .int
  | _ => .int
abbrev wsX60 : List Cond := u_ws RX6 TX6 7
theorem nmX6 : ∀ a, a < 7 → ∀ b, b < 7 → a ≠ b → (TX6 a).2.1 ≠ (TX6 b).2.1 := by decide +kernel
theorem tyX6_ok : ∀ k, k < 7 → parseFieldDescriptor (TX6 k).2.2.1 = some (tyX6 k) := by decide +kernel
abbrev cX6_init : ByteArray := prog_1_method_1_code
def yX6_init : MethodName := ⟨RX6, "<init>", "()V"⟩
abbrev cX6_register : ByteArray := prog_1_method_2_code
def yX6_register : MethodName := ⟨RX6, "register", "()I"⟩
abbrev cX6_beat : ByteArray := prog_1_method_3_code
def yX6_beat : MethodName := ⟨RX6, "beat", "(I)I"⟩
abbrev cX6_pass : ByteArray := prog_1_method_4_code
def yX6_pass : MethodName := ⟨RX6, "pass", "(I)I"⟩
abbrev cX6_setRefill : ByteArray := prog_1_method_5_code
def yX6_setRefill : MethodName := ⟨RX6, "setRefill", "(I)I"⟩
abbrev cX6_open : ByteArray := prog_1_method_6_code
def yX6_open : MethodName := ⟨RX6, "open", "(I)I"⟩
abbrev cX6_join : ByteArray := prog_1_method_7_code
def yX6_join : MethodName := ⟨RX6, "join", "(II)I"⟩
abbrev cX6_leave : ByteArray := prog_1_method_8_code
def yX6_leave : MethodName := ⟨RX6, "leave", "(II)I"⟩
abbrev cX6_type : ByteArray := prog_1_method_9_code
def yX6_type : MethodName := ⟨RX6, "type", "(IC)I"⟩
abbrev cX6_insert : ByteArray := prog_1_method_10_code
def yX6_insert : MethodName := ⟨RX6, "insert", "(IIC)I"⟩
abbrev cX6_erase : ByteArray := prog_1_method_11_code
def yX6_erase : MethodName := ⟨RX6, "erase", "(I)C"⟩
abbrev cX6_reverse : ByteArray := prog_1_method_12_code
def yX6_reverse : MethodName := ⟨RX6, "reverse", "(I)I"⟩
abbrev cX6_say : ByteArray := prog_1_method_13_code
def yX6_say : MethodName := ⟨RX6, "say", "(II)I"⟩
abbrev cX6_reply : ByteArray := prog_1_method_14_code
def yX6_reply : MethodName := ⟨RX6, "reply", "(II)I"⟩
abbrev cX6_edit : ByteArray := prog_1_method_15_code
def yX6_edit : MethodName := ⟨RX6, "edit", "(II)I"⟩
abbrev cX6_remove : ByteArray := prog_1_method_16_code
def yX6_remove : MethodName := ⟨RX6, "remove", "(II)I"⟩
abbrev cX6_read : ByteArray := prog_1_method_17_code
def yX6_read : MethodName := ⟨RX6, "read", "(II)I"⟩
abbrev cX6_readTo : ByteArray := prog_1_method_18_code
def yX6_readTo : MethodName := ⟨RX6, "readTo", "(II)I"⟩
abbrev cX6_users : ByteArray := prog_1_method_19_code
def yX6_users : MethodName := ⟨RX6, "users", "()I"⟩
abbrev cX6_rooms : ByteArray := prog_1_method_20_code
def yX6_rooms : MethodName := ⟨RX6, "rooms", "()I"⟩
abbrev cX6_messages : ByteArray := prog_1_method_21_code
def yX6_messages : MethodName := ⟨RX6, "messages", "()I"⟩
abbrev cX6_time : ByteArray := prog_1_method_22_code
def yX6_time : MethodName := ⟨RX6, "time", "()I"⟩
abbrev cX6_presence : ByteArray := prog_1_method_23_code
def yX6_presence : MethodName := ⟨RX6, "presence", "(I)C"⟩
abbrev cX6_tokens : ByteArray := prog_1_method_24_code
def yX6_tokens : MethodName := ⟨RX6, "tokens", "(I)F"⟩
abbrev cX6_tokenBits : ByteArray := prog_1_method_25_code
def yX6_tokenBits : MethodName := ⟨RX6, "tokenBits", "(I)I"⟩
abbrev cX6_draftLength : ByteArray := prog_1_method_26_code
def yX6_draftLength : MethodName := ⟨RX6, "draftLength", "(I)I"⟩
abbrev cX6_draftAt : ByteArray := prog_1_method_27_code
def yX6_draftAt : MethodName := ⟨RX6, "draftAt", "(II)C"⟩
abbrev cX6_members : ByteArray := prog_1_method_28_code
def yX6_members : MethodName := ⟨RX6, "members", "(I)I"⟩
abbrev cX6_memberAt : ByteArray := prog_1_method_29_code
def yX6_memberAt : MethodName := ⟨RX6, "memberAt", "(II)I"⟩
abbrev cX6_present : ByteArray := prog_1_method_30_code
def yX6_present : MethodName := ⟨RX6, "present", "(I)I"⟩
abbrev cX6_owner : ByteArray := prog_1_method_31_code
def yX6_owner : MethodName := ⟨RX6, "owner", "(I)I"⟩
abbrev cX6_countOf : ByteArray := prog_1_method_32_code
def yX6_countOf : MethodName := ⟨RX6, "countOf", "(I)I"⟩
abbrev cX6_messageAt : ByteArray := prog_1_method_33_code
def yX6_messageAt : MethodName := ⟨RX6, "messageAt", "(II)I"⟩
abbrev cX6_rankOf : ByteArray := prog_1_method_34_code
def yX6_rankOf : MethodName := ⟨RX6, "rankOf", "(I)I"⟩
abbrev cX6_author : ByteArray := prog_1_method_35_code
def yX6_author : MethodName := ⟨RX6, "author", "(I)I"⟩
abbrev cX6_roomOf : ByteArray := prog_1_method_36_code
def yX6_roomOf : MethodName := ⟨RX6, "roomOf", "(I)I"⟩
abbrev cX6_length : ByteArray := prog_1_method_37_code
def yX6_length : MethodName := ⟨RX6, "length", "(I)I"⟩
abbrev cX6_charAt : ByteArray := prog_1_method_38_code
def yX6_charAt : MethodName := ⟨RX6, "charAt", "(II)C"⟩
abbrev cX6_edits : ByteArray := prog_1_method_39_code
def yX6_edits : MethodName := ⟨RX6, "edits", "(I)I"⟩
abbrev cX6_isRemoved : ByteArray := prog_1_method_40_code
def yX6_isRemoved : MethodName := ⟨RX6, "isRemoved", "(I)Z"⟩
abbrev cX6_parent : ByteArray := prog_1_method_41_code
def yX6_parent : MethodName := ⟨RX6, "parent", "(I)I"⟩
abbrev cX6_depth : ByteArray := prog_1_method_42_code
def yX6_depth : MethodName := ⟨RX6, "depth", "(I)I"⟩
abbrev cX6_threadSize : ByteArray := prog_1_method_43_code
def yX6_threadSize : MethodName := ⟨RX6, "threadSize", "(I)I"⟩
abbrev cX6_threadAt : ByteArray := prog_1_method_44_code
def yX6_threadAt : MethodName := ⟨RX6, "threadAt", "(II)I"⟩
abbrev cX6_mentions : ByteArray := prog_1_method_45_code
def yX6_mentions : MethodName := ⟨RX6, "mentions", "(II)Z"⟩
abbrev cX6_unread : ByteArray := prog_1_method_46_code
def yX6_unread : MethodName := ⟨RX6, "unread", "(II)I"⟩
abbrev cX6_unreadByLog : ByteArray := prog_1_method_47_code
def yX6_unreadByLog : MethodName := ⟨RX6, "unreadByLog", "(II)I"⟩
abbrev cX6_unreadMentions : ByteArray := prog_1_method_48_code
def yX6_unreadMentions : MethodName := ⟨RX6, "unreadMentions", "(II)I"⟩
abbrev cX6_mentionsByLog : ByteArray := prog_1_method_49_code
def yX6_mentionsByLog : MethodName := ⟨RX6, "mentionsByLog", "(II)I"⟩
abbrev cX6_events : ByteArray := prog_1_method_50_code
def yX6_events : MethodName := ⟨RX6, "events", "()I"⟩
abbrev cX6_eventsOf : ByteArray := prog_1_method_51_code
def yX6_eventsOf : MethodName := ⟨RX6, "eventsOf", "(C)I"⟩
abbrev cX6_seenShare : ByteArray := prog_1_method_52_code
def yX6_seenShare : MethodName := ⟨RX6, "seenShare", "(I)F"⟩
abbrev cX6_activity : ByteArray := prog_1_method_53_code
def yX6_activity : MethodName := ⟨RX6, "activity", "(I)D"⟩
abbrev cX6_activityBits : ByteArray := prog_1_method_54_code
def yX6_activityBits : MethodName := ⟨RX6, "activityBits", "(I)J"⟩
abbrev cX6_knownUser : ByteArray := prog_1_method_55_code
def yX6_knownUser : MethodName := ⟨RX6, "knownUser", "(I)LInglenook$User;"⟩
abbrev cX6_knownRoom : ByteArray := prog_1_method_56_code
def yX6_knownRoom : MethodName := ⟨RX6, "knownRoom", "(I)LInglenook$Room;"⟩
abbrev cX6_knownMessage : ByteArray := prog_1_method_57_code
def yX6_knownMessage : MethodName := ⟨RX6, "knownMessage", "(I)LInglenook$Message;"⟩
abbrev cX6_requireMember : ByteArray := prog_1_method_58_code
def yX6_requireMember : MethodName := ⟨RX6, "requireMember", "(LInglenook$User;LInglenook$Room;)LInglenook$Member;"⟩
abbrev cX6_see : ByteArray := prog_1_method_59_code
def yX6_see : MethodName := ⟨RX6, "see", "(LInglenook$User;)V"⟩
abbrev cX6_presenceOf : ByteArray := prog_1_method_60_code
def yX6_presenceOf : MethodName := ⟨RX6, "presenceOf", "(LInglenook$User;)C"⟩
abbrev cX6_post : ByteArray := prog_1_method_61_code
def yX6_post : MethodName := ⟨RX6, "post", "(LInglenook$User;LInglenook$Room;LInglenook$Message;)I"⟩
abbrev cX6_growThreads : ByteArray := prog_1_method_62_code
def yX6_growThreads : MethodName := ⟨RX6, "growThreads", "(LInglenook$Message;)V"⟩
abbrev cX6_findInThread : ByteArray := prog_1_method_63_code
def yX6_findInThread : MethodName := ⟨RX6, "findInThread", "(LInglenook$Message;I)LInglenook$Message;"⟩
abbrev cX6_moveMark : ByteArray := prog_1_method_64_code
def yX6_moveMark : MethodName := ⟨RX6, "moveMark", "(LInglenook$Member;LInglenook$Room;I)V"⟩
abbrev cX6_unreadInRoom : ByteArray := prog_1_method_65_code
def yX6_unreadInRoom : MethodName := ⟨RX6, "unreadInRoom", "(IIZ)I"⟩
abbrev cX6_unreadInLog : ByteArray := prog_1_method_66_code
def yX6_unreadInLog : MethodName := ⟨RX6, "unreadInLog", "(IIZ)I"⟩
abbrev cX6_note : ByteArray := prog_1_method_67_code
def yX6_note : MethodName := ⟨RX6, "note", "(CIIII)V"⟩
abbrev cX6_activityOf : ByteArray := prog_1_method_68_code
def yX6_activityOf : MethodName := ⟨RX6, "activityOf", "(LInglenook$User;)D"⟩
abbrev cX6_bitsOfFloat : ByteArray := prog_1_method_69_code
def yX6_bitsOfFloat : MethodName := ⟨RX6, "bitsOfFloat", "(F)I"⟩
abbrev cX6_bitsOfDouble : ByteArray := prog_1_method_70_code
def yX6_bitsOfDouble : MethodName := ⟨RX6, "bitsOfDouble", "(D)J"⟩
def RX7 : String := "InglenookModel"
def TX7 : u_T := fun k => match k with
  | 0 => ("InglenookModel", "thrown", "I", false)
  | 1 => ("InglenookModel", "users", "I", false)
  | 2 => ("InglenookModel", "rooms", "I", false)
  | 3 => ("InglenookModel", "messages", "I", false)
  | 4 => ("InglenookModel", "time", "I", false)
  | 5 => ("InglenookModel", "refill", "I", false)
  | 6 => ("InglenookModel", "seen", "[I", true)
  | 7 => ("InglenookModel", "draftSize", "[I", true)
  | 8 => ("InglenookModel", "draft", "[I", true)
  | 9 => ("InglenookModel", "tokens", "[F", true)
  | 10 => ("InglenookModel", "memberCount", "[I", true)
  | 11 => ("InglenookModel", "member", "[I", true)
  | 12 => ("InglenookModel", "mark", "[I", true)
  | 13 => ("InglenookModel", "author", "[I", true)
  | 14 => ("InglenookModel", "roomOf", "[I", true)
  | 15 => ("InglenookModel", "said", "[I", true)
  | 16 => ("InglenookModel", "size", "[I", true)
  | 17 => ("InglenookModel", "letter", "[I", true)
  | 18 => ("InglenookModel", "edited", "[I", true)
  | 19 => ("InglenookModel", "parent", "[I", true)
  | 20 => ("InglenookModel", "there", "[I", true)
  | 21 => ("InglenookModel", "isGone", "[Z", true)
  | 22 => ("InglenookModel", "events", "[I", true)
  | 23 => ("InglenookModel", "walk", "[I", true)
  | _ => ("InglenookModel", "walked", "I", false)
def tyX7 : Nat → FieldType := fun k => match k with
  | 0 => .int
  | 1 => .int
  | 2 => .int
  | 3 => .int
  | 4 => .int
  | 5 => .int
  | 6 => .array .int
  | 7 => .array .int
  | 8 => .array .int
  | 9 => .array .float
  | 10 => .array .int
  | 11 => .array .int
  | 12 => .array .int
  | 13 => .array .int
  | 14 => .array .int
  | 15 => .array .int
  | 16 => .array .int
  | 17 => .array .int
  | 18 => .array .int
  | 19 => .array .int
  | 20 => .array .int
  | 21 => .array .boolean
  | 22 => .array .int
  | 23 => .array .int
  | _ => .int
abbrev wsX70 : List Cond := u_ws RX7 TX7 25
theorem nmX7 : ∀ a, a < 25 → ∀ b, b < 25 → a ≠ b → (TX7 a).2.1 ≠ (TX7 b).2.1 := by decide +kernel
theorem tyX7_ok : ∀ k, k < 25 → parseFieldDescriptor (TX7 k).2.2.1 = some (tyX7 k) := by decide +kernel
abbrev cX7_init : ByteArray := prog_10_method_1_code
def yX7_init : MethodName := ⟨RX7, "<init>", "()V"⟩
abbrev cX7_thrown : ByteArray := prog_10_method_2_code
def yX7_thrown : MethodName := ⟨RX7, "thrown", "()I"⟩
abbrev cX7_fails : ByteArray := prog_10_method_3_code
def yX7_fails : MethodName := ⟨RX7, "fails", "(I)I"⟩
abbrev cX7_in : ByteArray := prog_10_method_4_code
def yX7_in : MethodName := ⟨RX7, "in", "(III)Z"⟩
abbrev cX7_isUser : ByteArray := prog_10_method_5_code
def yX7_isUser : MethodName := ⟨RX7, "isUser", "(I)Z"⟩
abbrev cX7_isRoom : ByteArray := prog_10_method_6_code
def yX7_isRoom : MethodName := ⟨RX7, "isRoom", "(I)Z"⟩
abbrev cX7_isMessage : ByteArray := prog_10_method_7_code
def yX7_isMessage : MethodName := ⟨RX7, "isMessage", "(I)Z"⟩
abbrev cX7_place : ByteArray := prog_10_method_8_code
def yX7_place : MethodName := ⟨RX7, "place", "(II)I"⟩
abbrev cX7_isIn : ByteArray := prog_10_method_9_code
def yX7_isIn : MethodName := ⟨RX7, "isIn", "(II)Z"⟩
abbrev cX7_kind : ByteArray := prog_10_method_10_code
def yX7_kind : MethodName := ⟨RX7, "kind", "(C)I"⟩
abbrev cX7_sees : ByteArray := prog_10_method_11_code
def yX7_sees : MethodName := ⟨RX7, "sees", "(I)V"⟩
abbrev cX7_counts : ByteArray := prog_10_method_12_code
def yX7_counts : MethodName := ⟨RX7, "counts", "(I)I"⟩
abbrev cX7_rank : ByteArray := prog_10_method_13_code
def yX7_rank : MethodName := ⟨RX7, "rank", "(I)I"⟩
abbrev cX7_register : ByteArray := prog_10_method_14_code
def yX7_register : MethodName := ⟨RX7, "register", "()I"⟩
abbrev cX7_beat : ByteArray := prog_10_method_15_code
def yX7_beat : MethodName := ⟨RX7, "beat", "(I)I"⟩
abbrev cX7_pass : ByteArray := prog_10_method_16_code
def yX7_pass : MethodName := ⟨RX7, "pass", "(I)I"⟩
abbrev cX7_setRefill : ByteArray := prog_10_method_17_code
def yX7_setRefill : MethodName := ⟨RX7, "setRefill", "(I)I"⟩
abbrev cX7_joins : ByteArray := prog_10_method_18_code
def yX7_joins : MethodName := ⟨RX7, "joins", "(II)V"⟩
abbrev cX7_open : ByteArray := prog_10_method_19_code
def yX7_open : MethodName := ⟨RX7, "open", "(I)I"⟩
abbrev cX7_join : ByteArray := prog_10_method_20_code
def yX7_join : MethodName := ⟨RX7, "join", "(II)I"⟩
abbrev cX7_leave : ByteArray := prog_10_method_21_code
def yX7_leave : MethodName := ⟨RX7, "leave", "(II)I"⟩
abbrev cX7_type : ByteArray := prog_10_method_22_code
def yX7_type : MethodName := ⟨RX7, "type", "(IC)I"⟩
abbrev cX7_insert : ByteArray := prog_10_method_23_code
def yX7_insert : MethodName := ⟨RX7, "insert", "(IIC)I"⟩
abbrev cX7_erase : ByteArray := prog_10_method_24_code
def yX7_erase : MethodName := ⟨RX7, "erase", "(I)C"⟩
abbrev cX7_reverse : ByteArray := prog_10_method_25_code
def yX7_reverse : MethodName := ⟨RX7, "reverse", "(I)I"⟩
abbrev cX7_writes : ByteArray := prog_10_method_26_code
def yX7_writes : MethodName := ⟨RX7, "writes", "(II)V"⟩
abbrev cX7_says : ByteArray := prog_10_method_27_code
def yX7_says : MethodName := ⟨RX7, "says", "(III)I"⟩
abbrev cX7_say : ByteArray := prog_10_method_28_code
def yX7_say : MethodName := ⟨RX7, "say", "(II)I"⟩
abbrev cX7_reply : ByteArray := prog_10_method_29_code
def yX7_reply : MethodName := ⟨RX7, "reply", "(II)I"⟩
abbrev cX7_edit : ByteArray := prog_10_method_30_code
def yX7_edit : MethodName := ⟨RX7, "edit", "(II)I"⟩
abbrev cX7_remove : ByteArray := prog_10_method_31_code
def yX7_remove : MethodName := ⟨RX7, "remove", "(II)I"⟩
abbrev cX7_isMentioned : ByteArray := prog_10_method_32_code
def yX7_isMentioned : MethodName := ⟨RX7, "isMentioned", "(II)Z"⟩
abbrev cX7_news : ByteArray := prog_10_method_33_code
def yX7_news : MethodName := ⟨RX7, "news", "(IIZ)I"⟩
abbrev cX7_read : ByteArray := prog_10_method_34_code
def yX7_read : MethodName := ⟨RX7, "read", "(II)I"⟩
abbrev cX7_readTo : ByteArray := prog_10_method_35_code
def yX7_readTo : MethodName := ⟨RX7, "readTo", "(II)I"⟩
abbrev cX7_users : ByteArray := prog_10_method_36_code
def yX7_users : MethodName := ⟨RX7, "users", "()I"⟩
abbrev cX7_rooms : ByteArray := prog_10_method_37_code
def yX7_rooms : MethodName := ⟨RX7, "rooms", "()I"⟩
abbrev cX7_messages : ByteArray := prog_10_method_38_code
def yX7_messages : MethodName := ⟨RX7, "messages", "()I"⟩
abbrev cX7_time : ByteArray := prog_10_method_39_code
def yX7_time : MethodName := ⟨RX7, "time", "()I"⟩
abbrev cX7_isOne : ByteArray := prog_10_method_40_code
def yX7_isOne : MethodName := ⟨RX7, "isOne", "(Z)Z"⟩
abbrev cX7_presenceOf : ByteArray := prog_10_method_41_code
def yX7_presenceOf : MethodName := ⟨RX7, "presenceOf", "(I)I"⟩
abbrev cX7_presence : ByteArray := prog_10_method_42_code
def yX7_presence : MethodName := ⟨RX7, "presence", "(I)C"⟩
abbrev cX7_tokens : ByteArray := prog_10_method_43_code
def yX7_tokens : MethodName := ⟨RX7, "tokens", "(I)F"⟩
abbrev cX7_tokenBits : ByteArray := prog_10_method_44_code
def yX7_tokenBits : MethodName := ⟨RX7, "tokenBits", "(I)I"⟩
abbrev cX7_draftLength : ByteArray := prog_10_method_45_code
def yX7_draftLength : MethodName := ⟨RX7, "draftLength", "(I)I"⟩
abbrev cX7_draftAt : ByteArray := prog_10_method_46_code
def yX7_draftAt : MethodName := ⟨RX7, "draftAt", "(II)C"⟩
abbrev cX7_members : ByteArray := prog_10_method_47_code
def yX7_members : MethodName := ⟨RX7, "members", "(I)I"⟩
abbrev cX7_memberAt : ByteArray := prog_10_method_48_code
def yX7_memberAt : MethodName := ⟨RX7, "memberAt", "(II)I"⟩
abbrev cX7_present : ByteArray := prog_10_method_49_code
def yX7_present : MethodName := ⟨RX7, "present", "(I)I"⟩
abbrev cX7_owner : ByteArray := prog_10_method_50_code
def yX7_owner : MethodName := ⟨RX7, "owner", "(I)I"⟩
abbrev cX7_countOf : ByteArray := prog_10_method_51_code
def yX7_countOf : MethodName := ⟨RX7, "countOf", "(I)I"⟩
abbrev cX7_messageAt : ByteArray := prog_10_method_52_code
def yX7_messageAt : MethodName := ⟨RX7, "messageAt", "(II)I"⟩
abbrev cX7_rankOf : ByteArray := prog_10_method_53_code
def yX7_rankOf : MethodName := ⟨RX7, "rankOf", "(I)I"⟩
abbrev cX7_author : ByteArray := prog_10_method_54_code
def yX7_author : MethodName := ⟨RX7, "author", "(I)I"⟩
abbrev cX7_roomOf : ByteArray := prog_10_method_55_code
def yX7_roomOf : MethodName := ⟨RX7, "roomOf", "(I)I"⟩
abbrev cX7_length : ByteArray := prog_10_method_56_code
def yX7_length : MethodName := ⟨RX7, "length", "(I)I"⟩
abbrev cX7_charAt : ByteArray := prog_10_method_57_code
def yX7_charAt : MethodName := ⟨RX7, "charAt", "(II)C"⟩
abbrev cX7_edits : ByteArray := prog_10_method_58_code
def yX7_edits : MethodName := ⟨RX7, "edits", "(I)I"⟩
abbrev cX7_isRemoved : ByteArray := prog_10_method_59_code
def yX7_isRemoved : MethodName := ⟨RX7, "isRemoved", "(I)Z"⟩
abbrev cX7_parent : ByteArray := prog_10_method_60_code
def yX7_parent : MethodName := ⟨RX7, "parent", "(I)I"⟩
abbrev cX7_depth : ByteArray := prog_10_method_61_code
def yX7_depth : MethodName := ⟨RX7, "depth", "(I)I"⟩
abbrev cX7_walks : ByteArray := prog_10_method_62_code
def yX7_walks : MethodName := ⟨RX7, "walks", "(I)V"⟩
abbrev cX7_isWalked : ByteArray := prog_10_method_63_code
def yX7_isWalked : MethodName := ⟨RX7, "isWalked", "(I)Z"⟩
abbrev cX7_threadSize : ByteArray := prog_10_method_64_code
def yX7_threadSize : MethodName := ⟨RX7, "threadSize", "(I)I"⟩
abbrev cX7_threadAt : ByteArray := prog_10_method_65_code
def yX7_threadAt : MethodName := ⟨RX7, "threadAt", "(II)I"⟩
abbrev cX7_mentions : ByteArray := prog_10_method_66_code
def yX7_mentions : MethodName := ⟨RX7, "mentions", "(II)Z"⟩
abbrev cX7_newsFor : ByteArray := prog_10_method_67_code
def yX7_newsFor : MethodName := ⟨RX7, "newsFor", "(IIZ)I"⟩
abbrev cX7_unread : ByteArray := prog_10_method_68_code
def yX7_unread : MethodName := ⟨RX7, "unread", "(II)I"⟩
abbrev cX7_unreadByLog : ByteArray := prog_10_method_69_code
def yX7_unreadByLog : MethodName := ⟨RX7, "unreadByLog", "(II)I"⟩
abbrev cX7_unreadMentions : ByteArray := prog_10_method_70_code
def yX7_unreadMentions : MethodName := ⟨RX7, "unreadMentions", "(II)I"⟩
abbrev cX7_mentionsByLog : ByteArray := prog_10_method_71_code
def yX7_mentionsByLog : MethodName := ⟨RX7, "mentionsByLog", "(II)I"⟩
abbrev cX7_events : ByteArray := prog_10_method_72_code
def yX7_events : MethodName := ⟨RX7, "events", "()I"⟩
abbrev cX7_eventsOf : ByteArray := prog_10_method_73_code
def yX7_eventsOf : MethodName := ⟨RX7, "eventsOf", "(C)I"⟩
abbrev cX7_seenShare : ByteArray := prog_10_method_74_code
def yX7_seenShare : MethodName := ⟨RX7, "seenShare", "(I)F"⟩
abbrev cX7_activityOf : ByteArray := prog_10_method_75_code
def yX7_activityOf : MethodName := ⟨RX7, "activityOf", "(I)D"⟩
abbrev cX7_activity : ByteArray := prog_10_method_76_code
def yX7_activity : MethodName := ⟨RX7, "activity", "(I)D"⟩
abbrev cX7_activityBits : ByteArray := prog_10_method_77_code
def yX7_activityBits : MethodName := ⟨RX7, "activityBits", "(I)J"⟩
def RJx145de : String := "java/io/Serializable"
def TJx145de : u_T := fun k => match k with
  | _ => ("", "", "", false)
def tyJx145de : Nat → FieldType := fun k => match k with
  | _ => .int
abbrev wsJx145de0 : List Cond := u_ws RJx145de TJx145de 0
theorem nmJx145de : ∀ a, a < 0 → ∀ b, b < 0 → a ≠ b → (TJx145de a).2.1 ≠ (TJx145de b).2.1 := by decide +kernel
theorem tyJx145de_ok : ∀ k, k < 0 → parseFieldDescriptor (TJx145de k).2.2.1 = some (tyJx145de k) := by decide +kernel
def RJx00060 : String := "java/lang/ArrayIndexOutOfBoundsException"
def TJx00060 : u_T := fun k => match k with
  | 0 => ("java/lang/Throwable", "backtrace", "Ljava/lang/Object;", false)
  | 1 => ("java/lang/Throwable", "detailMessage", "Ljava/lang/String;", false)
  | 2 => ("java/lang/Throwable", "cause", "Ljava/lang/Throwable;", false)
  | 3 => ("java/lang/Throwable", "stackTrace", "[Ljava/lang/StackTraceElement;", false)
  | 4 => ("java/lang/Throwable", "depth", "I", false)
  | _ => ("java/lang/Throwable", "suppressedExceptions", "Ljava/util/List;", false)
def tyJx00060 : Nat → FieldType := fun k => match k with
  | 0 => .object "java/lang/Object"
  | 1 => .object "java/lang/String"
  | 2 => .object "java/lang/Throwable"
  | 3 => .array (.object "java/lang/StackTraceElement")
  | 4 => .int
  | _ => .object "java/util/List"
abbrev wsJx000600 : List Cond := u_ws RJx00060 TJx00060 6
theorem nmJx00060 : ∀ a, a < 6 → ∀ b, b < 6 → a ≠ b → (TJx00060 a).2.1 ≠ (TJx00060 b).2.1 := by decide +kernel
theorem tyJx00060_ok : ∀ k, k < 6 → parseFieldDescriptor (TJx00060 k).2.2.1 = some (tyJx00060 k) := by decide +kernel
abbrev cJx00060_init_a7421 : ByteArray := prog_13_method_2_code
def yJx00060_init_a7421 : MethodName := ⟨RJx00060, "<init>", "(Ljava/lang/String;)V"⟩
def RJx9f9b0 : String := "java/lang/CharSequence"
def TJx9f9b0 : u_T := fun k => match k with
  | _ => ("", "", "", false)
def tyJx9f9b0 : Nat → FieldType := fun k => match k with
  | _ => .int
abbrev wsJx9f9b00 : List Cond := u_ws RJx9f9b0 TJx9f9b0 0
theorem nmJx9f9b0 : ∀ a, a < 0 → ∀ b, b < 0 → a ≠ b → (TJx9f9b0 a).2.1 ≠ (TJx9f9b0 b).2.1 := by decide +kernel
theorem tyJx9f9b0_ok : ∀ k, k < 0 → parseFieldDescriptor (TJx9f9b0 k).2.2.1 = some (tyJx9f9b0 k) := by decide +kernel
def RJ11 : String := "java/lang/Character"
def TJ11 : u_T := fun k => match k with
  | _ => ("", "", "", false)
def tyJ11 : Nat → FieldType := fun k => match k with
  | _ => .int
abbrev wsJ110 : List Cond := u_ws RJ11 TJ11 0
theorem nmJ11 : ∀ a, a < 0 → ∀ b, b < 0 → a ≠ b → (TJ11 a).2.1 ≠ (TJ11 b).2.1 := by decide +kernel
theorem tyJ11_ok : ∀ k, k < 0 → parseFieldDescriptor (TJ11 k).2.2.1 = some (tyJ11 k) := by decide +kernel
abbrev cJ11_isValidCodePoint_9a6ad : ByteArray := prog_15_method_11_code
def yJ11_isValidCodePoint_9a6ad : MethodName := ⟨RJ11, "isValidCodePoint", "(I)Z"⟩
abbrev cJ11_highSurrogate_5068e : ByteArray := prog_15_method_28_code
def yJ11_highSurrogate_5068e : MethodName := ⟨RJ11, "highSurrogate", "(I)C"⟩
abbrev cJ11_lowSurrogate_5068e : ByteArray := prog_15_method_29_code
def yJ11_lowSurrogate_5068e : MethodName := ⟨RJ11, "lowSurrogate", "(I)C"⟩
def RJx8e188 : String := "java/lang/Cloneable"
def TJx8e188 : u_T := fun k => match k with
  | _ => ("", "", "", false)
def tyJx8e188 : Nat → FieldType := fun k => match k with
  | _ => .int
abbrev wsJx8e1880 : List Cond := u_ws RJx8e188 TJx8e188 0
theorem nmJx8e188 : ∀ a, a < 0 → ∀ b, b < 0 → a ≠ b → (TJx8e188 a).2.1 ≠ (TJx8e188 b).2.1 := by decide +kernel
theorem tyJx8e188_ok : ∀ k, k < 0 → parseFieldDescriptor (TJx8e188 k).2.2.1 = some (tyJx8e188 k) := by decide +kernel
def RJxb160c : String := "java/lang/Comparable"
def TJxb160c : u_T := fun k => match k with
  | _ => ("", "", "", false)
def tyJxb160c : Nat → FieldType := fun k => match k with
  | _ => .int
abbrev wsJxb160c0 : List Cond := u_ws RJxb160c TJxb160c 0
theorem nmJxb160c : ∀ a, a < 0 → ∀ b, b < 0 → a ≠ b → (TJxb160c a).2.1 ≠ (TJxb160c b).2.1 := by decide +kernel
theorem tyJxb160c_ok : ∀ k, k < 0 → parseFieldDescriptor (TJxb160c k).2.2.1 = some (tyJxb160c k) := by decide +kernel
def RJxe99ae : String := "java/lang/Double"
def TJxe99ae : u_T := fun k => match k with
  | _ => ("", "", "", false)
def tyJxe99ae : Nat → FieldType := fun k => match k with
  | _ => .int
abbrev wsJxe99ae0 : List Cond := u_ws RJxe99ae TJxe99ae 0
theorem nmJxe99ae : ∀ a, a < 0 → ∀ b, b < 0 → a ≠ b → (TJxe99ae a).2.1 ≠ (TJxe99ae b).2.1 := by decide +kernel
theorem tyJxe99ae_ok : ∀ k, k < 0 → parseFieldDescriptor (TJxe99ae k).2.2.1 = some (tyJxe99ae k) := by decide +kernel
abbrev cJxe99ae_isNaN_b9ae7 : ByteArray := prog_18_method_6_code
def yJxe99ae_isNaN_b9ae7 : MethodName := ⟨RJxe99ae, "isNaN", "(D)Z"⟩
abbrev cJxe99ae_doubleToLongBits_ccdee : ByteArray := prog_18_method_23_code
def yJxe99ae_doubleToLongBits_ccdee : MethodName := ⟨RJxe99ae, "doubleToLongBits", "(D)J"⟩
def RJxf58ca : String := "java/lang/Float"
def TJxf58ca : u_T := fun k => match k with
  | _ => ("", "", "", false)
def tyJxf58ca : Nat → FieldType := fun k => match k with
  | _ => .int
abbrev wsJxf58ca0 : List Cond := u_ws RJxf58ca TJxf58ca 0
theorem nmJxf58ca : ∀ a, a < 0 → ∀ b, b < 0 → a ≠ b → (TJxf58ca a).2.1 ≠ (TJxf58ca b).2.1 := by decide +kernel
theorem tyJxf58ca_ok : ∀ k, k < 0 → parseFieldDescriptor (TJxf58ca k).2.2.1 = some (tyJxf58ca k) := by decide +kernel
abbrev cJxf58ca_isNaN_12338 : ByteArray := prog_20_method_6_code
def yJxf58ca_isNaN_12338 : MethodName := ⟨RJxf58ca, "isNaN", "(F)Z"⟩
abbrev cJxf58ca_floatToIntBits_5c35a : ByteArray := prog_20_method_24_code
def yJxf58ca_floatToIntBits_5c35a : MethodName := ⟨RJxf58ca, "floatToIntBits", "(F)I"⟩
def RJxab1ab : String := "java/lang/Iterable"
def TJxab1ab : u_T := fun k => match k with
  | _ => ("", "", "", false)
def tyJxab1ab : Nat → FieldType := fun k => match k with
  | _ => .int
abbrev wsJxab1ab0 : List Cond := u_ws RJxab1ab TJxab1ab 0
theorem nmJxab1ab : ∀ a, a < 0 → ∀ b, b < 0 → a ≠ b → (TJxab1ab a).2.1 ≠ (TJxab1ab b).2.1 := by decide +kernel
theorem tyJxab1ab_ok : ∀ k, k < 0 → parseFieldDescriptor (TJxab1ab k).2.2.1 = some (tyJxab1ab k) := by decide +kernel
def RJ9 : String := "java/lang/Math"
def TJ9 : u_T := fun k => match k with
  | _ => ("", "", "", false)
def tyJ9 : Nat → FieldType := fun k => match k with
  | _ => .int
abbrev wsJ90 : List Cond := u_ws RJ9 TJ9 0
theorem nmJ9 : ∀ a, a < 0 → ∀ b, b < 0 → a ≠ b → (TJ9 a).2.1 ≠ (TJ9 b).2.1 := by decide +kernel
theorem tyJ9_ok : ∀ k, k < 0 → parseFieldDescriptor (TJ9 k).2.2.1 = some (tyJ9 k) := by decide +kernel
abbrev cJ9_max_7cf53 : ByteArray := prog_25_method_65_code
def yJ9_max_7cf53 : MethodName := ⟨RJ9, "max", "(II)I"⟩
abbrev cJ9_min_7cf53 : ByteArray := prog_25_method_69_code
def yJ9_min_7cf53 : MethodName := ⟨RJ9, "min", "(II)I"⟩
def RJxd2413 : String := "java/lang/Number"
def TJxd2413 : u_T := fun k => match k with
  | _ => ("", "", "", false)
def tyJxd2413 : Nat → FieldType := fun k => match k with
  | _ => .int
abbrev wsJxd24130 : List Cond := u_ws RJxd2413 TJxd2413 0
theorem nmJxd2413 : ∀ a, a < 0 → ∀ b, b < 0 → a ≠ b → (TJxd2413 a).2.1 ≠ (TJxd2413 b).2.1 := by decide +kernel
theorem tyJxd2413_ok : ∀ k, k < 0 → parseFieldDescriptor (TJxd2413 k).2.2.1 = some (tyJxd2413 k) := by decide +kernel
def RJ0 : String := "java/lang/String"
def TJ0 : u_T := fun k => match k with
  | 0 => ("java/lang/String", "value", "[B", true)
  | _ => ("java/lang/String", "coder", "B", true)
def tyJ0 : Nat → FieldType := fun k => match k with
  | 0 => .array .byte
  | _ => .byte
abbrev wsJ00 : List Cond := u_ws RJ0 TJ0 2
theorem nmJ0 : ∀ a, a < 2 → ∀ b, b < 2 → a ≠ b → (TJ0 a).2.1 ≠ (TJ0 b).2.1 := by decide +kernel
theorem tyJ0_ok : ∀ k, k < 2 → parseFieldDescriptor (TJ0 k).2.2.1 = some (tyJ0 k) := by decide +kernel
abbrev cJ0_length_8abf5 : ByteArray := prog_28_method_54_code
def yJ0_length_8abf5 : MethodName := ⟨RJ0, "length", "()I"⟩
abbrev cJ0_indexOf_0f7a4 : ByteArray := prog_28_method_79_code
def yJ0_indexOf_0f7a4 : MethodName := ⟨RJ0, "indexOf", "(I)I"⟩
abbrev cJ0_indexOf_7cf53 : ByteArray := prog_28_method_80_code
def yJ0_indexOf_7cf53 : MethodName := ⟨RJ0, "indexOf", "(II)I"⟩
abbrev cJ0_coder_7d493 : ByteArray := prog_28_method_152_code
def yJ0_coder_7d493 : MethodName := ⟨RJ0, "coder", "()B"⟩
abbrev cJ0_isLatin1_aae02 : ByteArray := prog_28_method_154_code
def yJ0_isLatin1_aae02 : MethodName := ⟨RJ0, "isLatin1", "()Z"⟩
abbrev cJ0_checkBoundsBeginEnd_23922 : ByteArray := prog_28_method_158_code
def yJ0_checkBoundsBeginEnd_23922 : MethodName := ⟨RJ0, "checkBoundsBeginEnd", "(III)V"⟩
def RJ1 : String := "java/lang/StringLatin1"
def TJ1 : u_T := fun k => match k with
  | _ => ("", "", "", false)
def tyJ1 : Nat → FieldType := fun k => match k with
  | _ => .int
abbrev wsJ10 : List Cond := u_ws RJ1 TJ1 0
theorem nmJ1 : ∀ a, a < 0 → ∀ b, b < 0 → a ≠ b → (TJ1 a).2.1 ≠ (TJ1 b).2.1 := by decide +kernel
theorem tyJ1_ok : ∀ k, k < 0 → parseFieldDescriptor (TJ1 k).2.2.1 = some (tyJ1 k) := by decide +kernel
abbrev cJ1_canEncode_9a6ad : ByteArray := prog_29_method_4_code
def yJ1_canEncode_9a6ad : MethodName := ⟨RJ1, "canEncode", "(I)Z"⟩
abbrev cJ1_indexOf_4cfef : ByteArray := prog_29_method_22_code
def yJ1_indexOf_4cfef : MethodName := ⟨RJ1, "indexOf", "([BIII)I"⟩
abbrev cJ1_indexOfChar_4cfef : ByteArray := prog_29_method_23_code
def yJ1_indexOfChar_4cfef : MethodName := ⟨RJ1, "indexOfChar", "([BIII)I"⟩
def RJ2 : String := "java/lang/StringUTF16"
def TJ2 : u_T := fun k => match k with
  | _ => ("", "", "", false)
def tyJ2 : Nat → FieldType := fun k => match k with
  | _ => .int
abbrev wsJ20 : List Cond := u_ws RJ2 TJ2 0
theorem nmJ2 : ∀ a, a < 0 → ∀ b, b < 0 → a ≠ b → (TJ2 a).2.1 ≠ (TJ2 b).2.1 := by decide +kernel
theorem tyJ2_ok : ∀ k, k < 0 → parseFieldDescriptor (TJ2 k).2.2.1 = some (tyJ2 k) := by decide +kernel
abbrev cJ2_getChar_3b067 : ByteArray := prog_30_method_5_code
def yJ2_getChar_3b067 : MethodName := ⟨RJ2, "getChar", "([BI)C"⟩
abbrev cJ2_length_9d52b : ByteArray := prog_30_method_6_code
def yJ2_length_9d52b : MethodName := ⟨RJ2, "length", "([B)I"⟩
abbrev cJ2_indexOf_4cfef : ByteArray := prog_30_method_40_code
def yJ2_indexOf_4cfef : MethodName := ⟨RJ2, "indexOf", "([BIII)I"⟩
abbrev cJ2_indexOfChar_4cfef : ByteArray := prog_30_method_47_code
def yJ2_indexOfChar_4cfef : MethodName := ⟨RJ2, "indexOfChar", "([BIII)I"⟩
abbrev cJ2_indexOfCharUnsafe_4cfef : ByteArray := prog_30_method_48_code
def yJ2_indexOfCharUnsafe_4cfef : MethodName := ⟨RJ2, "indexOfCharUnsafe", "([BIII)I"⟩
abbrev cJ2_indexOfSupplementary_4cfef : ByteArray := prog_30_method_49_code
def yJ2_indexOfSupplementary_4cfef : MethodName := ⟨RJ2, "indexOfSupplementary", "([BIII)I"⟩
abbrev cJ2_checkBoundsBeginEnd_d044e : ByteArray := prog_30_method_93_code
def yJ2_checkBoundsBeginEnd_d044e : MethodName := ⟨RJ2, "checkBoundsBeginEnd", "(II[B)V"⟩
def RJ10 : String := "java/lang/System"
def TJ10 : u_T := fun k => match k with
  | _ => ("", "", "", false)
def tyJ10 : Nat → FieldType := fun k => match k with
  | _ => .int
abbrev wsJ100 : List Cond := u_ws RJ10 TJ10 0
theorem nmJ10 : ∀ a, a < 0 → ∀ b, b < 0 → a ≠ b → (TJ10 a).2.1 ≠ (TJ10 b).2.1 := by decide +kernel
theorem tyJ10_ok : ∀ k, k < 0 → parseFieldDescriptor (TJ10 k).2.2.1 = some (tyJ10 k) := by decide +kernel
def RJxfd54e : String := "java/lang/constant/Constable"
def TJxfd54e : u_T := fun k => match k with
  | _ => ("", "", "", false)
def tyJxfd54e : Nat → FieldType := fun k => match k with
  | _ => .int
abbrev wsJxfd54e0 : List Cond := u_ws RJxfd54e TJxfd54e 0
theorem nmJxfd54e : ∀ a, a < 0 → ∀ b, b < 0 → a ≠ b → (TJxfd54e a).2.1 ≠ (TJxfd54e b).2.1 := by decide +kernel
theorem tyJxfd54e_ok : ∀ k, k < 0 → parseFieldDescriptor (TJxfd54e k).2.2.1 = some (tyJxfd54e k) := by decide +kernel
def RJx3cf43 : String := "java/lang/constant/ConstantDesc"
def TJx3cf43 : u_T := fun k => match k with
  | _ => ("", "", "", false)
def tyJx3cf43 : Nat → FieldType := fun k => match k with
  | _ => .int
abbrev wsJx3cf430 : List Cond := u_ws RJx3cf43 TJx3cf43 0
theorem nmJx3cf43 : ∀ a, a < 0 → ∀ b, b < 0 → a ≠ b → (TJx3cf43 a).2.1 ≠ (TJx3cf43 b).2.1 := by decide +kernel
theorem tyJx3cf43_ok : ∀ k, k < 0 → parseFieldDescriptor (TJx3cf43 k).2.2.1 = some (tyJx3cf43 k) := by decide +kernel
def RJxa1e45 : String := "java/util/AbstractCollection"
def TJxa1e45 : u_T := fun k => match k with
  | _ => ("", "", "", false)
def tyJxa1e45 : Nat → FieldType := fun k => match k with
  | _ => .int
abbrev wsJxa1e450 : List Cond := u_ws RJxa1e45 TJxa1e45 0
theorem nmJxa1e45 : ∀ a, a < 0 → ∀ b, b < 0 → a ≠ b → (TJxa1e45 a).2.1 ≠ (TJxa1e45 b).2.1 := by decide +kernel
theorem tyJxa1e45_ok : ∀ k, k < 0 → parseFieldDescriptor (TJxa1e45 k).2.2.1 = some (tyJxa1e45 k) := by decide +kernel
abbrev cJxa1e45_init_da8c8 : ByteArray := prog_36_method_1_code
def yJxa1e45_init_da8c8 : MethodName := ⟨RJxa1e45, "<init>", "()V"⟩
def RJxc12de : String := "java/util/AbstractList"
def TJxc12de : u_T := fun k => match k with
  | _ => ("", "", "", false)
def tyJxc12de : Nat → FieldType := fun k => match k with
  | _ => .int
abbrev wsJxc12de0 : List Cond := u_ws RJxc12de TJxc12de 0
theorem nmJxc12de : ∀ a, a < 0 → ∀ b, b < 0 → a ≠ b → (TJxc12de a).2.1 ≠ (TJxc12de b).2.1 := by decide +kernel
theorem tyJxc12de_ok : ∀ k, k < 0 → parseFieldDescriptor (TJxc12de k).2.2.1 = some (tyJxc12de k) := by decide +kernel
abbrev cJxc12de_init_da8c8 : ByteArray := prog_37_method_1_code
def yJxc12de_init_da8c8 : MethodName := ⟨RJxc12de, "<init>", "()V"⟩
def RJx4a65c : String := "java/util/ArrayList"
def TJx4a65c : u_T := fun k => match k with
  | 0 => ("java/util/AbstractList", "modCount", "I", false)
  | 1 => ("java/util/ArrayList", "elementData", "[Ljava/lang/Object;", false)
  | _ => ("java/util/ArrayList", "size", "I", false)
def tyJx4a65c : Nat → FieldType := fun k => match k with
  | 0 => .int
  | 1 => .array (.object "java/lang/Object")
  | _ => .int
abbrev wsJx4a65c0 : List Cond := u_ws RJx4a65c TJx4a65c 3
theorem nmJx4a65c : ∀ a, a < 3 → ∀ b, b < 3 → a ≠ b → (TJx4a65c a).2.1 ≠ (TJx4a65c b).2.1 := by decide +kernel
theorem tyJx4a65c_ok : ∀ k, k < 3 → parseFieldDescriptor (TJx4a65c k).2.2.1 = some (tyJx4a65c k) := by decide +kernel
abbrev cJx4a65c_init_da8c8 : ByteArray := prog_38_method_2_code
def yJx4a65c_init_da8c8 : MethodName := ⟨RJx4a65c, "<init>", "()V"⟩
abbrev cJx4a65c_grow_92f84 : ByteArray := prog_38_method_6_code
def yJx4a65c_grow_92f84 : MethodName := ⟨RJx4a65c, "grow", "(I)[Ljava/lang/Object;"⟩
abbrev cJx4a65c_grow_d5877 : ByteArray := prog_38_method_7_code
def yJx4a65c_grow_d5877 : MethodName := ⟨RJx4a65c, "grow", "()[Ljava/lang/Object;"⟩
abbrev cJx4a65c_size_8abf5 : ByteArray := prog_38_method_8_code
def yJx4a65c_size_8abf5 : MethodName := ⟨RJx4a65c, "size", "()I"⟩
abbrev cJx4a65c_isEmpty_aae02 : ByteArray := prog_38_method_9_code
def yJx4a65c_isEmpty_aae02 : MethodName := ⟨RJx4a65c, "isEmpty", "()Z"⟩
abbrev cJx4a65c_elementData_915e3 : ByteArray := prog_38_method_18_code
def yJx4a65c_elementData_915e3 : MethodName := ⟨RJx4a65c, "elementData", "(I)Ljava/lang/Object;"⟩
abbrev cJx4a65c_get_915e3 : ByteArray := prog_38_method_20_code
def yJx4a65c_get_915e3 : MethodName := ⟨RJx4a65c, "get", "(I)Ljava/lang/Object;"⟩
abbrev cJx4a65c_add_72be8 : ByteArray := prog_38_method_24_code
def yJx4a65c_add_72be8 : MethodName := ⟨RJx4a65c, "add", "(Ljava/lang/Object;[Ljava/lang/Object;I)V"⟩
abbrev cJx4a65c_add_9ea2d : ByteArray := prog_38_method_25_code
def yJx4a65c_add_9ea2d : MethodName := ⟨RJx4a65c, "add", "(Ljava/lang/Object;)Z"⟩
abbrev cJx4a65c_remove_915e3 : ByteArray := prog_38_method_29_code
def yJx4a65c_remove_915e3 : MethodName := ⟨RJx4a65c, "remove", "(I)Ljava/lang/Object;"⟩
abbrev cJx4a65c_fastRemove_b59b0 : ByteArray := prog_38_method_39_code
def yJx4a65c_fastRemove_b59b0 : MethodName := ⟨RJx4a65c, "fastRemove", "([Ljava/lang/Object;I)V"⟩
def RJ7 : String := "java/util/Arrays"
def TJ7 : u_T := fun k => match k with
  | _ => ("", "", "", false)
def tyJ7 : Nat → FieldType := fun k => match k with
  | _ => .int
abbrev wsJ70 : List Cond := u_ws RJ7 TJ7 0
theorem nmJ7 : ∀ a, a < 0 → ∀ b, b < 0 → a ≠ b → (TJ7 a).2.1 ≠ (TJ7 b).2.1 := by decide +kernel
theorem tyJ7_ok : ∀ k, k < 0 → parseFieldDescriptor (TJ7 k).2.2.1 = some (tyJ7 k) := by decide +kernel
abbrev cJ7_copyOf_1904c : ByteArray := prog_39_method_119_code
def yJ7_copyOf_1904c : MethodName := ⟨RJ7, "copyOf", "([Ljava/lang/Object;I)[Ljava/lang/Object;"⟩
abbrev cJ7_copyOf_6403c : ByteArray := prog_39_method_120_code
def yJ7_copyOf_6403c : MethodName := ⟨RJ7, "copyOf", "([Ljava/lang/Object;ILjava/lang/Class;)[Ljava/lang/Object;"⟩
def RJx5ef63 : String := "java/util/Collection"
def TJx5ef63 : u_T := fun k => match k with
  | _ => ("", "", "", false)
def tyJx5ef63 : Nat → FieldType := fun k => match k with
  | _ => .int
abbrev wsJx5ef630 : List Cond := u_ws RJx5ef63 TJx5ef63 0
theorem nmJx5ef63 : ∀ a, a < 0 → ∀ b, b < 0 → a ≠ b → (TJx5ef63 a).2.1 ≠ (TJx5ef63 b).2.1 := by decide +kernel
theorem tyJx5ef63_ok : ∀ k, k < 0 → parseFieldDescriptor (TJx5ef63 k).2.2.1 = some (tyJx5ef63 k) := by decide +kernel
def RJxbd725 : String := "java/util/List"
def TJxbd725 : u_T := fun k => match k with
  | _ => ("", "", "", false)
def tyJxbd725 : Nat → FieldType := fun k => match k with
  | _ => .int
abbrev wsJxbd7250 : List Cond := u_ws RJxbd725 TJxbd725 0
theorem nmJxbd725 : ∀ a, a < 0 → ∀ b, b < 0 → a ≠ b → (TJxbd725 a).2.1 ≠ (TJxbd725 b).2.1 := by decide +kernel
theorem tyJxbd725_ok : ∀ k, k < 0 → parseFieldDescriptor (TJxbd725 k).2.2.1 = some (tyJxbd725 k) := by decide +kernel
def RJ15 : String := "java/util/Objects"
def TJ15 : u_T := fun k => match k with
  | _ => ("", "", "", false)
def tyJ15 : Nat → FieldType := fun k => match k with
  | _ => .int
abbrev wsJ150 : List Cond := u_ws RJ15 TJ15 0
theorem nmJ15 : ∀ a, a < 0 → ∀ b, b < 0 → a ≠ b → (TJ15 a).2.1 ≠ (TJ15 b).2.1 := by decide +kernel
theorem tyJ15_ok : ∀ k, k < 0 → parseFieldDescriptor (TJ15 k).2.2.1 = some (tyJ15 k) := by decide +kernel
abbrev cJ15_checkIndex_7cf53 : ByteArray := prog_43_method_17_code
def yJ15_checkIndex_7cf53 : MethodName := ⟨RJ15, "checkIndex", "(II)I"⟩
def RJxf0a74 : String := "java/util/RandomAccess"
def TJxf0a74 : u_T := fun k => match k with
  | _ => ("", "", "", false)
def tyJxf0a74 : Nat → FieldType := fun k => match k with
  | _ => .int
abbrev wsJxf0a740 : List Cond := u_ws RJxf0a74 TJxf0a74 0
theorem nmJxf0a74 : ∀ a, a < 0 → ∀ b, b < 0 → a ≠ b → (TJxf0a74 a).2.1 ≠ (TJxf0a74 b).2.1 := by decide +kernel
theorem tyJxf0a74_ok : ∀ k, k < 0 → parseFieldDescriptor (TJxf0a74 k).2.2.1 = some (tyJxf0a74 k) := by decide +kernel
def RJxa66e6 : String := "java/util/SequencedCollection"
def TJxa66e6 : u_T := fun k => match k with
  | _ => ("", "", "", false)
def tyJxa66e6 : Nat → FieldType := fun k => match k with
  | _ => .int
abbrev wsJxa66e60 : List Cond := u_ws RJxa66e6 TJxa66e6 0
theorem nmJxa66e6 : ∀ a, a < 0 → ∀ b, b < 0 → a ≠ b → (TJxa66e6 a).2.1 ≠ (TJxa66e6 b).2.1 := by decide +kernel
theorem tyJxa66e6_ok : ∀ k, k < 0 → parseFieldDescriptor (TJxa66e6 k).2.2.1 = some (tyJxa66e6 k) := by decide +kernel
def RJ8 : String := "jdk/internal/util/ArraysSupport"
def TJ8 : u_T := fun k => match k with
  | _ => ("", "", "", false)
def tyJ8 : Nat → FieldType := fun k => match k with
  | _ => .int
abbrev wsJ80 : List Cond := u_ws RJ8 TJ8 0
theorem nmJ8 : ∀ a, a < 0 → ∀ b, b < 0 → a ≠ b → (TJ8 a).2.1 ≠ (TJ8 b).2.1 := by decide +kernel
theorem tyJ8_ok : ∀ k, k < 0 → parseFieldDescriptor (TJ8 k).2.2.1 = some (tyJ8 k) := by decide +kernel
abbrev cJ8_newLength_cabcc : ByteArray := prog_46_method_27_code
def yJ8_newLength_cabcc : MethodName := ⟨RJ8, "newLength", "(III)I"⟩
abbrev cJ8_hugeLength_7cf53 : ByteArray := prog_46_method_28_code
def yJ8_hugeLength_7cf53 : MethodName := ⟨RJ8, "hugeLength", "(II)I"⟩
def RJ3 : String := "jdk/internal/util/Preconditions"
def TJ3 : u_T := fun k => match k with
  | _ => ("", "", "", false)
def tyJ3 : Nat → FieldType := fun k => match k with
  | _ => .int
abbrev wsJ30 : List Cond := u_ws RJ3 TJ3 0
theorem nmJ3 : ∀ a, a < 0 → ∀ b, b < 0 → a ≠ b → (TJ3 a).2.1 ≠ (TJ3 b).2.1 := by decide +kernel
theorem tyJ3_ok : ∀ k, k < 0 → parseFieldDescriptor (TJ3 k).2.2.1 = some (tyJ3 k) := by decide +kernel
abbrev cJ3_checkIndex_8e157 : ByteArray := prog_47_method_11_code
def yJ3_checkIndex_8e157 : MethodName := ⟨RJ3, "checkIndex", "(IILjava/util/function/BiFunction;)I"⟩
abbrev cJ3_checkFromToIndex_8c36e : ByteArray := prog_47_method_12_code
def yJ3_checkFromToIndex_8c36e : MethodName := ⟨RJ3, "checkFromToIndex", "(IIILjava/util/function/BiFunction;)I"⟩
def RL : String := "InglenookLaw"
abbrev cL_register : ByteArray := method_3_code
def yL_register : MethodName := ⟨RL, "register", "(LInglenook;[J)I"⟩
abbrev cL_beat : ByteArray := method_4_code
def yL_beat : MethodName := ⟨RL, "beat", "(LInglenook;I[J)I"⟩
abbrev cL_pass : ByteArray := method_5_code
def yL_pass : MethodName := ⟨RL, "pass", "(LInglenook;I[J)I"⟩
abbrev cL_setRefill : ByteArray := method_6_code
def yL_setRefill : MethodName := ⟨RL, "setRefill", "(LInglenook;I[J)I"⟩
abbrev cL_open : ByteArray := method_7_code
def yL_open : MethodName := ⟨RL, "open", "(LInglenook;I[J)I"⟩
abbrev cL_join : ByteArray := method_8_code
def yL_join : MethodName := ⟨RL, "join", "(LInglenook;II[J)I"⟩
abbrev cL_leave : ByteArray := method_9_code
def yL_leave : MethodName := ⟨RL, "leave", "(LInglenook;II[J)I"⟩
abbrev cL_type : ByteArray := method_10_code
def yL_type : MethodName := ⟨RL, "type", "(LInglenook;IC[J)I"⟩
abbrev cL_insert : ByteArray := method_11_code
def yL_insert : MethodName := ⟨RL, "insert", "(LInglenook;IIC[J)I"⟩
abbrev cL_erase : ByteArray := method_12_code
def yL_erase : MethodName := ⟨RL, "erase", "(LInglenook;I[J)I"⟩
abbrev cL_reverse : ByteArray := method_13_code
def yL_reverse : MethodName := ⟨RL, "reverse", "(LInglenook;I[J)I"⟩
abbrev cL_say : ByteArray := method_14_code
def yL_say : MethodName := ⟨RL, "say", "(LInglenook;II[J)I"⟩
abbrev cL_reply : ByteArray := method_15_code
def yL_reply : MethodName := ⟨RL, "reply", "(LInglenook;II[J)I"⟩
abbrev cL_edit : ByteArray := method_16_code
def yL_edit : MethodName := ⟨RL, "edit", "(LInglenook;II[J)I"⟩
abbrev cL_remove : ByteArray := method_17_code
def yL_remove : MethodName := ⟨RL, "remove", "(LInglenook;II[J)I"⟩
abbrev cL_read : ByteArray := method_18_code
def yL_read : MethodName := ⟨RL, "read", "(LInglenook;II[J)I"⟩
abbrev cL_readTo : ByteArray := method_19_code
def yL_readTo : MethodName := ⟨RL, "readTo", "(LInglenook;II[J)I"⟩
abbrev cL_presence : ByteArray := method_20_code
def yL_presence : MethodName := ⟨RL, "presence", "(LInglenook;I[J)I"⟩
abbrev cL_tokens : ByteArray := method_21_code
def yL_tokens : MethodName := ⟨RL, "tokens", "(LInglenook;I[D)I"⟩
abbrev cL_tokenBits : ByteArray := method_22_code
def yL_tokenBits : MethodName := ⟨RL, "tokenBits", "(LInglenook;I[J)I"⟩
abbrev cL_draftLength : ByteArray := method_23_code
def yL_draftLength : MethodName := ⟨RL, "draftLength", "(LInglenook;I[J)I"⟩
abbrev cL_draftAt : ByteArray := method_24_code
def yL_draftAt : MethodName := ⟨RL, "draftAt", "(LInglenook;II[J)I"⟩
abbrev cL_members : ByteArray := method_25_code
def yL_members : MethodName := ⟨RL, "members", "(LInglenook;I[J)I"⟩
abbrev cL_memberAt : ByteArray := method_26_code
def yL_memberAt : MethodName := ⟨RL, "memberAt", "(LInglenook;II[J)I"⟩
abbrev cL_present : ByteArray := method_27_code
def yL_present : MethodName := ⟨RL, "present", "(LInglenook;I[J)I"⟩
abbrev cL_owner : ByteArray := method_28_code
def yL_owner : MethodName := ⟨RL, "owner", "(LInglenook;I[J)I"⟩
abbrev cL_countOf : ByteArray := method_29_code
def yL_countOf : MethodName := ⟨RL, "countOf", "(LInglenook;I[J)I"⟩
abbrev cL_messageAt : ByteArray := method_30_code
def yL_messageAt : MethodName := ⟨RL, "messageAt", "(LInglenook;II[J)I"⟩
abbrev cL_rankOf : ByteArray := method_31_code
def yL_rankOf : MethodName := ⟨RL, "rankOf", "(LInglenook;I[J)I"⟩
abbrev cL_author : ByteArray := method_32_code
def yL_author : MethodName := ⟨RL, "author", "(LInglenook;I[J)I"⟩
abbrev cL_roomOf : ByteArray := method_33_code
def yL_roomOf : MethodName := ⟨RL, "roomOf", "(LInglenook;I[J)I"⟩
abbrev cL_length : ByteArray := method_34_code
def yL_length : MethodName := ⟨RL, "length", "(LInglenook;I[J)I"⟩
abbrev cL_charAt : ByteArray := method_35_code
def yL_charAt : MethodName := ⟨RL, "charAt", "(LInglenook;II[J)I"⟩
abbrev cL_edits : ByteArray := method_36_code
def yL_edits : MethodName := ⟨RL, "edits", "(LInglenook;I[J)I"⟩
abbrev cL_isRemoved : ByteArray := method_37_code
def yL_isRemoved : MethodName := ⟨RL, "isRemoved", "(LInglenook;I[J)I"⟩
abbrev cL_parent : ByteArray := method_38_code
def yL_parent : MethodName := ⟨RL, "parent", "(LInglenook;I[J)I"⟩
abbrev cL_depth : ByteArray := method_39_code
def yL_depth : MethodName := ⟨RL, "depth", "(LInglenook;I[J)I"⟩
abbrev cL_threadSize : ByteArray := method_40_code
def yL_threadSize : MethodName := ⟨RL, "threadSize", "(LInglenook;I[J)I"⟩
abbrev cL_threadAt : ByteArray := method_41_code
def yL_threadAt : MethodName := ⟨RL, "threadAt", "(LInglenook;II[J)I"⟩
abbrev cL_mentions : ByteArray := method_42_code
def yL_mentions : MethodName := ⟨RL, "mentions", "(LInglenook;II[J)I"⟩
abbrev cL_unread : ByteArray := method_43_code
def yL_unread : MethodName := ⟨RL, "unread", "(LInglenook;II[J)I"⟩
abbrev cL_unreadByLog : ByteArray := method_44_code
def yL_unreadByLog : MethodName := ⟨RL, "unreadByLog", "(LInglenook;II[J)I"⟩
abbrev cL_unreadMentions : ByteArray := method_45_code
def yL_unreadMentions : MethodName := ⟨RL, "unreadMentions", "(LInglenook;II[J)I"⟩
abbrev cL_mentionsByLog : ByteArray := method_46_code
def yL_mentionsByLog : MethodName := ⟨RL, "mentionsByLog", "(LInglenook;II[J)I"⟩
abbrev cL_eventsOf : ByteArray := method_47_code
def yL_eventsOf : MethodName := ⟨RL, "eventsOf", "(LInglenook;C[J)I"⟩
abbrev cL_seenShare : ByteArray := method_48_code
def yL_seenShare : MethodName := ⟨RL, "seenShare", "(LInglenook;I[D)I"⟩
abbrev cL_activity : ByteArray := method_49_code
def yL_activity : MethodName := ⟨RL, "activity", "(LInglenook;I[D)I"⟩
abbrev cL_activityBits : ByteArray := method_50_code
def yL_activityBits : MethodName := ⟨RL, "activityBits", "(LInglenook;I[J)I"⟩
abbrev cL_law : ByteArray := code
def yL_law : MethodName := ⟨RL, "law", "([I)Z"⟩
abbrev vwCl : List vw_C := [(RJ0, TJ0, 2), (RJx00060, TJx00060, 6), (RJx4a65c, TJx4a65c, 3), (RX0, TX0, 5), (RX1, TX1, 12), (RX2, TX2, 7), (RX3, TX3, 3), (RX4, TX4, 2), (RX5, TX5, 4), (RX6, TX6, 7), (RX7, TX7, 25), (RX8, TX8, 2)]
