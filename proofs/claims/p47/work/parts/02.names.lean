/-! ===== BEGIN printed: names, fields, word lists, decode rows ===== -/
def RX0 : String := "HostelBeds$Booking"
def TX0 : u_T := fun k => match k with
  | 0 => ("HostelBeds$Booking", "name", "J", false)
  | 1 => ("HostelBeds$Booking", "from", "I", false)
  | 2 => ("HostelBeds$Booking", "nights", "I", false)
  | 3 => ("HostelBeds$Booking", "women", "I", false)
  | 4 => ("HostelBeds$Booking", "men", "I", false)
  | 5 => ("HostelBeds$Booking", "persons", "I", false)
  | 6 => ("HostelBeds$Booking", "age", "I", false)
  | 7 => ("HostelBeds$Booking", "chance", "I", false)
  | 8 => ("HostelBeds$Booking", "together", "Z", false)
  | 9 => ("HostelBeds$Booking", "absent", "Z", false)
  | _ => ("HostelBeds$Booking", "state", "I", false)
def tyX0 : Nat → FieldType := fun k => match k with
  | 0 => .long
  | 1 => .int
  | 2 => .int
  | 3 => .int
  | 4 => .int
  | 5 => .int
  | 6 => .int
  | 7 => .int
  | 8 => .boolean
  | 9 => .boolean
  | _ => .int
abbrev wsX00 : List Cond := u_ws RX0 TX0 11
theorem nmX0 : ∀ a, a < 11 → ∀ b, b < 11 → a ≠ b → (TX0 a).2.1 ≠ (TX0 b).2.1 := by decide +kernel
theorem tyX0_ok : ∀ k, k < 11 → parseFieldDescriptor (TX0 k).2.2.1 = some (tyX0 k) := by decide +kernel
abbrev cX0_init : ByteArray := prog_2_method_1_code
def yX0_init : MethodName := ⟨RX0, "<init>", "()V"⟩
abbrev cX0_fill : ByteArray := prog_2_method_2_code
def yX0_fill : MethodName := ⟨RX0, "fill", "(IIIIII)V"⟩
abbrev cX0_staysIn : ByteArray := prog_2_method_4_code
def yX0_staysIn : MethodName := ⟨RX0, "staysIn", "(I)Z"⟩
abbrev cX0_nightBits : ByteArray := prog_2_method_5_code
def yX0_nightBits : MethodName := ⟨RX0, "nightBits", "()I"⟩
def RX1 : String := "HostelBeds$Hostel"
def TX1 : u_T := fun k => match k with
  | 0 => ("HostelBeds$Hostel", "rooms", "[LHostelBeds$Room;", true)
  | 1 => ("HostelBeds$Hostel", "roomCount", "I", false)
  | 2 => ("HostelBeds$Hostel", "bedCount", "I", false)
  | 3 => ("HostelBeds$Hostel", "bookings", "[LHostelBeds$Booking;", true)
  | 4 => ("HostelBeds$Hostel", "bookingCount", "I", false)
  | 5 => ("HostelBeds$Hostel", "queue", "[I", true)
  | 6 => ("HostelBeds$Hostel", "queued", "I", false)
  | 7 => ("HostelBeds$Hostel", "crowd", "[I", true)
  | 8 => ("HostelBeds$Hostel", "over", "I", false)
  | 9 => ("HostelBeds$Hostel", "walk", "I", false)
  | 10 => ("HostelBeds$Hostel", "offerNights", "I", false)
  | _ => ("HostelBeds$Hostel", "offerPercent", "I", false)
def tyX1 : Nat → FieldType := fun k => match k with
  | 0 => .array (.object "HostelBeds$Room")
  | 1 => .int
  | 2 => .int
  | 3 => .array (.object "HostelBeds$Booking")
  | 4 => .int
  | 5 => .array .int
  | 6 => .int
  | 7 => .array .int
  | 8 => .int
  | 9 => .int
  | 10 => .int
  | _ => .int
abbrev wsX10 : List Cond := u_ws RX1 TX1 12
theorem nmX1 : ∀ a, a < 12 → ∀ b, b < 12 → a ≠ b → (TX1 a).2.1 ≠ (TX1 b).2.1 := by decide +kernel
theorem tyX1_ok : ∀ k, k < 12 → parseFieldDescriptor (TX1 k).2.2.1 = some (tyX1 k) := by decide +kernel
abbrev cX1_init : ByteArray := prog_3_method_1_code
def yX1_init : MethodName := ⟨RX1, "<init>", "()V"⟩
abbrev cX1_clear : ByteArray := prog_3_method_2_code
def yX1_clear : MethodName := ⟨RX1, "clear", "()V"⟩
abbrev cX1_forgetStates : ByteArray := prog_3_method_3_code
def yX1_forgetStates : MethodName := ⟨RX1, "forgetStates", "()V"⟩
abbrev cX1_roomNamed : ByteArray := prog_3_method_5_code
def yX1_roomNamed : MethodName := ⟨RX1, "roomNamed", "(J)I"⟩
abbrev cX1_bookingNamed : ByteArray := prog_3_method_6_code
def yX1_bookingNamed : MethodName := ⟨RX1, "bookingNamed", "(J)I"⟩
abbrev cX1_countState : ByteArray := prog_3_method_7_code
def yX1_countState : MethodName := ⟨RX1, "countState", "(I)I"⟩
abbrev cX1_canAccept : ByteArray := prog_3_method_8_code
def yX1_canAccept : MethodName := ⟨RX1, "canAccept", "(LHostelBeds$Booking;)Z"⟩
abbrev cX1_accept : ByteArray := prog_3_method_9_code
def yX1_accept : MethodName := ⟨RX1, "accept", "(LHostelBeds$Booking;)V"⟩
abbrev cX1_addToCrowd : ByteArray := prog_3_method_10_code
def yX1_addToCrowd : MethodName := ⟨RX1, "addToCrowd", "(LHostelBeds$Booking;I)V"⟩
abbrev cX1_tellNext : ByteArray := prog_3_method_11_code
def yX1_tellNext : MethodName := ⟨RX1, "tellNext", "()V"⟩
abbrev cX1_tell : ByteArray := prog_3_method_12_code
def yX1_tell : MethodName := ⟨RX1, "tell", "(I)V"⟩
abbrev cX1_drop : ByteArray := prog_3_method_14_code
def yX1_drop : MethodName := ⟨RX1, "drop", "(I)V"⟩
abbrev cX1_acceptWaiting : ByteArray := prog_3_method_15_code
def yX1_acceptWaiting : MethodName := ⟨RX1, "acceptWaiting", "()I"⟩
def RX2 : String := "HostelBeds$Input"
def TX2 : u_T := fun k => match k with
  | 0 => ("HostelBeds$Input", "text", "[B", true)
  | 1 => ("HostelBeds$Input", "length", "I", false)
  | 2 => ("HostelBeds$Input", "at", "I", false)
  | 3 => ("HostelBeds$Input", "start", "I", false)
  | 4 => ("HostelBeds$Input", "token", "I", false)
  | 5 => ("HostelBeds$Input", "word", "J", false)
  | _ => ("HostelBeds$Input", "number", "I", false)
def tyX2 : Nat → FieldType := fun k => match k with
  | 0 => .array .byte
  | 1 => .int
  | 2 => .int
  | 3 => .int
  | 4 => .int
  | 5 => .long
  | _ => .int
abbrev wsX20 : List Cond := u_ws RX2 TX2 7
theorem nmX2 : ∀ a, a < 7 → ∀ b, b < 7 → a ≠ b → (TX2 a).2.1 ≠ (TX2 b).2.1 := by decide +kernel
theorem tyX2_ok : ∀ k, k < 7 → parseFieldDescriptor (TX2 k).2.2.1 = some (tyX2 k) := by decide +kernel
abbrev cX2_init : ByteArray := prog_4_method_1_code
def yX2_init : MethodName := ⟨RX2, "<init>", "()V"⟩
abbrev cX2_put : ByteArray := prog_4_method_2_code
def yX2_put : MethodName := ⟨RX2, "put", "(I)V"⟩
abbrev cX2_read : ByteArray := prog_4_method_3_code
def yX2_read : MethodName := ⟨RX2, "read", "(LHostelBeds$Hostel;)I"⟩
abbrev cX2_advance : ByteArray := prog_4_method_5_code
def yX2_advance : MethodName := ⟨RX2, "advance", "()V"⟩
abbrev cX2_takeWord : ByteArray := prog_4_method_6_code
def yX2_takeWord : MethodName := ⟨RX2, "takeWord", "()V"⟩
abbrev cX2_takeNumber : ByteArray := prog_4_method_7_code
def yX2_takeNumber : MethodName := ⟨RX2, "takeNumber", "()V"⟩
abbrev cX2_isWord : ByteArray := prog_4_method_8_code
def yX2_isWord : MethodName := ⟨RX2, "isWord", "(Ljava/lang/String;)Z"⟩
abbrev cX2_readNumber : ByteArray := prog_4_method_9_code
def yX2_readNumber : MethodName := ⟨RX2, "readNumber", "(II)Z"⟩
abbrev cX2_readEnd : ByteArray := prog_4_method_10_code
def yX2_readEnd : MethodName := ⟨RX2, "readEnd", "()Z"⟩
abbrev cX2_readRoom : ByteArray := prog_4_method_11_code
def yX2_readRoom : MethodName := ⟨RX2, "readRoom", "(LHostelBeds$Hostel;)Z"⟩
abbrev cX2_kindTold : ByteArray := prog_4_method_12_code
def yX2_kindTold : MethodName := ⟨RX2, "kindTold", "()I"⟩
abbrev cX2_readBook : ByteArray := prog_4_method_13_code
def yX2_readBook : MethodName := ⟨RX2, "readBook", "(LHostelBeds$Hostel;)Z"⟩
abbrev cX2_readGroup : ByteArray := prog_4_method_14_code
def yX2_readGroup : MethodName := ⟨RX2, "readGroup", "(LHostelBeds$Booking;)Z"⟩
abbrev cX2_readBooked : ByteArray := prog_4_method_15_code
def yX2_readBooked : MethodName := ⟨RX2, "readBooked", "(LHostelBeds$Hostel;)I"⟩
abbrev cX2_readCancel : ByteArray := prog_4_method_16_code
def yX2_readCancel : MethodName := ⟨RX2, "readCancel", "(LHostelBeds$Hostel;)Z"⟩
abbrev cX2_readAbsent : ByteArray := prog_4_method_17_code
def yX2_readAbsent : MethodName := ⟨RX2, "readAbsent", "(LHostelBeds$Hostel;)Z"⟩
abbrev cX2_readOver : ByteArray := prog_4_method_18_code
def yX2_readOver : MethodName := ⟨RX2, "readOver", "(LHostelBeds$Hostel;)Z"⟩
abbrev cX2_readWalk : ByteArray := prog_4_method_19_code
def yX2_readWalk : MethodName := ⟨RX2, "readWalk", "(LHostelBeds$Hostel;)Z"⟩
abbrev cX2_readOffer : ByteArray := prog_4_method_20_code
def yX2_readOffer : MethodName := ⟨RX2, "readOffer", "(LHostelBeds$Hostel;)Z"⟩
def RX3 : String := "HostelBeds$Plan"
def TX3 : u_T := fun k => match k with
  | 0 => ("HostelBeds$Plan", "busy", "[I", true)
  | 1 => ("HostelBeds$Plan", "bedOfPerson", "[I", true)
  | 2 => ("HostelBeds$Plan", "outcome", "[I", true)
  | 3 => ("HostelBeds$Plan", "roomBits", "[I", true)
  | 4 => ("HostelBeds$Plan", "paid", "[I", true)
  | 5 => ("HostelBeds$Plan", "earned", "I", false)
  | 6 => ("HostelBeds$Plan", "spent", "I", false)
  | _ => ("HostelBeds$Plan", "free", "[I", true)
def tyX3 : Nat → FieldType := fun k => match k with
  | 0 => .array .int
  | 1 => .array .int
  | 2 => .array .int
  | 3 => .array .int
  | 4 => .array .int
  | 5 => .int
  | 6 => .int
  | _ => .array .int
abbrev wsX30 : List Cond := u_ws RX3 TX3 8
theorem nmX3 : ∀ a, a < 8 → ∀ b, b < 8 → a ≠ b → (TX3 a).2.1 ≠ (TX3 b).2.1 := by decide +kernel
theorem tyX3_ok : ∀ k, k < 8 → parseFieldDescriptor (TX3 k).2.2.1 = some (tyX3 k) := by decide +kernel
abbrev cX3_init : ByteArray := prog_5_method_1_code
def yX3_init : MethodName := ⟨RX3, "<init>", "()V"⟩
abbrev cX3_isBusy : ByteArray := prog_5_method_2_code
def yX3_isBusy : MethodName := ⟨RX3, "isBusy", "(II)Z"⟩
abbrev cX3_taken : ByteArray := prog_5_method_3_code
def yX3_taken : MethodName := ⟨RX3, "taken", "(II)I"⟩
abbrev cX3_hasBeds : ByteArray := prog_5_method_4_code
def yX3_hasBeds : MethodName := ⟨RX3, "hasBeds", "(I)Z"⟩
abbrev cX3_hasBed : ByteArray := prog_5_method_5_code
def yX3_hasBed : MethodName := ⟨RX3, "hasBed", "(III)Z"⟩
abbrev cX3_make : ByteArray := prog_5_method_7_code
def yX3_make : MethodName := ⟨RX3, "make", "(LHostelBeds$Hostel;)V"⟩
abbrev cX3_clear : ByteArray := prog_5_method_8_code
def yX3_clear : MethodName := ⟨RX3, "clear", "()V"⟩
abbrev cX3_place : ByteArray := prog_5_method_9_code
def yX3_place : MethodName := ⟨RX3, "place", "(LHostelBeds$Hostel;I)V"⟩
abbrev cX3_countFree : ByteArray := prog_5_method_10_code
def yX3_countFree : MethodName := ⟨RX3, "countFree", "(LHostelBeds$Hostel;LHostelBeds$Booking;)V"⟩
abbrev cX3_oneRoom : ByteArray := prog_5_method_11_code
def yX3_oneRoom : MethodName := ⟨RX3, "oneRoom", "(LHostelBeds$Hostel;LHostelBeds$Booking;)I"⟩
abbrev cX3_isBetter : ByteArray := prog_5_method_12_code
def yX3_isBetter : MethodName := ⟨RX3, "isBetter", "(LHostelBeds$Hostel;II)Z"⟩
abbrev cX3_fewestRooms : ByteArray := prog_5_method_13_code
def yX3_fewestRooms : MethodName := ⟨RX3, "fewestRooms", "(LHostelBeds$Hostel;LHostelBeds$Booking;)I"⟩
abbrev cX3_holds : ByteArray := prog_5_method_14_code
def yX3_holds : MethodName := ⟨RX3, "holds", "(LHostelBeds$Hostel;LHostelBeds$Booking;I)Z"⟩
abbrev cX3_giveBeds : ByteArray := prog_5_method_15_code
def yX3_giveBeds : MethodName := ⟨RX3, "giveBeds", "(LHostelBeds$Hostel;II)I"⟩
abbrev cX3_firstFree : ByteArray := prog_5_method_16_code
def yX3_firstFree : MethodName := ⟨RX3, "firstFree", "(LHostelBeds$Hostel;III)I"⟩
def RX4 : String := "HostelBeds$Room"
def TX4 : u_T := fun k => match k with
  | 0 => ("HostelBeds$Room", "name", "J", false)
  | 1 => ("HostelBeds$Room", "kind", "I", false)
  | 2 => ("HostelBeds$Room", "beds", "I", false)
  | 3 => ("HostelBeds$Room", "age", "I", false)
  | _ => ("HostelBeds$Room", "price", "I", false)
def tyX4 : Nat → FieldType := fun k => match k with
  | 0 => .long
  | 1 => .int
  | 2 => .int
  | 3 => .int
  | _ => .int
abbrev wsX40 : List Cond := u_ws RX4 TX4 5
theorem nmX4 : ∀ a, a < 5 → ∀ b, b < 5 → a ≠ b → (TX4 a).2.1 ≠ (TX4 b).2.1 := by decide +kernel
theorem tyX4_ok : ∀ k, k < 5 → parseFieldDescriptor (TX4 k).2.2.1 = some (tyX4 k) := by decide +kernel
abbrev cX4_init : ByteArray := prog_6_method_1_code
def yX4_init : MethodName := ⟨RX4, "<init>", "()V"⟩
abbrev cX4_takesAll : ByteArray := prog_6_method_3_code
def yX4_takesAll : MethodName := ⟨RX4, "takesAll", "(LHostelBeds$Booking;)Z"⟩
def RX5 : String := "HostelBeds"
def TX5 : u_T := fun k => match k with
  | 0 => ("HostelBeds", "input", "LHostelBeds$Input;", true)
  | 1 => ("HostelBeds", "wrongAt", "I", false)
  | 2 => ("HostelBeds", "now", "LHostelBeds$Hostel;", false)
  | 3 => ("HostelBeds", "spare", "LHostelBeds$Hostel;", false)
  | 4 => ("HostelBeds", "plan", "LHostelBeds$Plan;", true)
  | 5 => ("HostelBeds", "trial", "LHostelBeds$Plan;", true)
  | 6 => ("HostelBeds", "past", "[LHostelBeds$Hostel;", true)
  | 7 => ("HostelBeds", "pastNext", "I", false)
  | 8 => ("HostelBeds", "pastCount", "I", false)
  | 9 => ("HostelBeds", "odds", "[D", true)
  | 10 => ("HostelBeds", "signs", "[C", true)
  | _ => ("HostelBeds", "signCount", "I", false)
def tyX5 : Nat → FieldType := fun k => match k with
  | 0 => .object "HostelBeds$Input"
  | 1 => .int
  | 2 => .object "HostelBeds$Hostel"
  | 3 => .object "HostelBeds$Hostel"
  | 4 => .object "HostelBeds$Plan"
  | 5 => .object "HostelBeds$Plan"
  | 6 => .array (.object "HostelBeds$Hostel")
  | 7 => .int
  | 8 => .int
  | 9 => .array .double
  | 10 => .array .char
  | _ => .int
abbrev wsX50 : List Cond := u_ws RX5 TX5 12
theorem nmX5 : ∀ a, a < 12 → ∀ b, b < 12 → a ≠ b → (TX5 a).2.1 ≠ (TX5 b).2.1 := by decide +kernel
theorem tyX5_ok : ∀ k, k < 12 → parseFieldDescriptor (TX5 k).2.2.1 = some (tyX5 k) := by decide +kernel
abbrev cX5_init : ByteArray := prog_1_method_1_code
def yX5_init : MethodName := ⟨RX5, "<init>", "()V"⟩
abbrev cX5_append : ByteArray := prog_1_method_2_code
def yX5_append : MethodName := ⟨RX5, "append", "(IIIII)I"⟩
abbrev cX5_truncate : ByteArray := prog_1_method_3_code
def yX5_truncate : MethodName := ⟨RX5, "truncate", "(I)V"⟩
abbrev cX5_load : ByteArray := prog_1_method_4_code
def yX5_load : MethodName := ⟨RX5, "load", "()I"⟩
abbrev cX5_count : ByteArray := prog_1_method_6_code
def yX5_count : MethodName := ⟨RX5, "count", "(I)I"⟩
abbrev cX5_setting : ByteArray := prog_1_method_7_code
def yX5_setting : MethodName := ⟨RX5, "setting", "(I)I"⟩
abbrev cX5_room : ByteArray := prog_1_method_8_code
def yX5_room : MethodName := ⟨RX5, "room", "(II)I"⟩
abbrev cX5_booking : ByteArray := prog_1_method_9_code
def yX5_booking : MethodName := ⟨RX5, "booking", "(II)I"⟩
abbrev cX5_state : ByteArray := prog_1_method_11_code
def yX5_state : MethodName := ⟨RX5, "state", "(I)I"⟩
abbrev cX5_waiting : ByteArray := prog_1_method_12_code
def yX5_waiting : MethodName := ⟨RX5, "waiting", "(I)I"⟩
abbrev cX5_placed : ByteArray := prog_1_method_13_code
def yX5_placed : MethodName := ⟨RX5, "placed", "(I)I"⟩
abbrev cX5_roomsOf : ByteArray := prog_1_method_14_code
def yX5_roomsOf : MethodName := ⟨RX5, "roomsOf", "(I)I"⟩
abbrev cX5_roomOf : ByteArray := prog_1_method_15_code
def yX5_roomOf : MethodName := ⟨RX5, "roomOf", "(II)I"⟩
abbrev cX5_bedOf : ByteArray := prog_1_method_16_code
def yX5_bedOf : MethodName := ⟨RX5, "bedOf", "(II)I"⟩
abbrev cX5_bedOfPerson : ByteArray := prog_1_method_17_code
def yX5_bedOfPerson : MethodName := ⟨RX5, "bedOfPerson", "(II)I"⟩
abbrev cX5_occupant : ByteArray := prog_1_method_18_code
def yX5_occupant : MethodName := ⟨RX5, "occupant", "(III)I"⟩
abbrev cX5_occupied : ByteArray := prog_1_method_20_code
def yX5_occupied : MethodName := ⟨RX5, "occupied", "(I)I"⟩
abbrev cX5_takenBeds : ByteArray := prog_1_method_21_code
def yX5_takenBeds : MethodName := ⟨RX5, "takenBeds", "(I)I"⟩
abbrev cX5_booked : ByteArray := prog_1_method_22_code
def yX5_booked : MethodName := ⟨RX5, "booked", "(I)I"⟩
abbrev cX5_fullNights : ByteArray := prog_1_method_25_code
def yX5_fullNights : MethodName := ⟨RX5, "fullNights", "()I"⟩
abbrev cX5_pays : ByteArray := prog_1_method_29_code
def yX5_pays : MethodName := ⟨RX5, "pays", "(I)I"⟩
abbrev cX5_net : ByteArray := prog_1_method_31_code
def yX5_net : MethodName := ⟨RX5, "net", "()I"⟩
abbrev cX5_chance : ByteArray := prog_1_method_32_code
def yX5_chance : MethodName := ⟨RX5, "chance", "(II)D"⟩
abbrev cX5_risk : ByteArray := prog_1_method_33_code
def yX5_risk : MethodName := ⟨RX5, "risk", "(I)D"⟩
abbrev cX5_expectedWalks : ByteArray := prog_1_method_34_code
def yX5_expectedWalks : MethodName := ⟨RX5, "expectedWalks", "(I)D"⟩
abbrev cX5_fillOdds : ByteArray := prog_1_method_35_code
def yX5_fillOdds : MethodName := ⟨RX5, "fillOdds", "(I)V"⟩
abbrev cX5_addToOdds : ByteArray := prog_1_method_36_code
def yX5_addToOdds : MethodName := ⟨RX5, "addToOdds", "(ID)V"⟩
abbrev cX5_checkRoom : ByteArray := prog_1_method_57_code
def yX5_checkRoom : MethodName := ⟨RX5, "checkRoom", "(I)V"⟩
abbrev cX5_checkBed : ByteArray := prog_1_method_58_code
def yX5_checkBed : MethodName := ⟨RX5, "checkBed", "(II)V"⟩
abbrev cX5_checkBooking : ByteArray := prog_1_method_59_code
def yX5_checkBooking : MethodName := ⟨RX5, "checkBooking", "(I)V"⟩
abbrev cX5_checkNight : ByteArray := prog_1_method_60_code
def yX5_checkNight : MethodName := ⟨RX5, "checkNight", "(I)V"⟩
def RX6 : String := "HostelBedsModel"
def TX6 : u_T := fun k => match k with
  | _ => ("", "", "", false)
def tyX6 : Nat → FieldType := fun k => match k with
  | _ => .int
abbrev wsX60 : List Cond := u_ws RX6 TX6 0
theorem nmX6 : ∀ a, a < 0 → ∀ b, b < 0 → a ≠ b → (TX6 a).2.1 ≠ (TX6 b).2.1 := by decide +kernel
theorem tyX6_ok : ∀ k, k < 0 → parseFieldDescriptor (TX6 k).2.2.1 = some (tyX6 k) := by decide +kernel
def RJx145de : String := "java/io/Serializable"
def TJx145de : u_T := fun k => match k with
  | _ => ("", "", "", false)
def tyJx145de : Nat → FieldType := fun k => match k with
  | _ => .int
abbrev wsJx145de0 : List Cond := u_ws RJx145de TJx145de 0
theorem nmJx145de : ∀ a, a < 0 → ∀ b, b < 0 → a ≠ b → (TJx145de a).2.1 ≠ (TJx145de b).2.1 := by decide +kernel
theorem tyJx145de_ok : ∀ k, k < 0 → parseFieldDescriptor (TJx145de k).2.2.1 = some (tyJx145de k) := by decide +kernel
def RJ5 : String := "java/lang/AbstractStringBuilder"
def TJ5 : u_T := fun k => match k with
  | _ => ("", "", "", false)
def tyJ5 : Nat → FieldType := fun k => match k with
  | _ => .int
abbrev wsJ50 : List Cond := u_ws RJ5 TJ5 0
theorem nmJ5 : ∀ a, a < 0 → ∀ b, b < 0 → a ≠ b → (TJ5 a).2.1 ≠ (TJ5 b).2.1 := by decide +kernel
theorem tyJ5_ok : ∀ k, k < 0 → parseFieldDescriptor (TJ5 k).2.2.1 = some (tyJ5 k) := by decide +kernel
abbrev cJ5_init_d00df : ByteArray := prog_10_method_2_code
def yJ5_init_d00df : MethodName := ⟨RJ5, "<init>", "(I)V"⟩
abbrev cJ5_length_8abf5 : ByteArray := prog_10_method_6_code
def yJ5_length_8abf5 : MethodName := ⟨RJ5, "length", "()I"⟩
abbrev cJ5_ensureCapacityInternal_d00df : ByteArray := prog_10_method_9_code
def yJ5_ensureCapacityInternal_d00df : MethodName := ⟨RJ5, "ensureCapacityInternal", "(I)V"⟩
abbrev cJ5_newCapacity_0f7a4 : ByteArray := prog_10_method_10_code
def yJ5_newCapacity_0f7a4 : MethodName := ⟨RJ5, "newCapacity", "(I)I"⟩
abbrev cJ5_inflate_da8c8 : ByteArray := prog_10_method_11_code
def yJ5_inflate_da8c8 : MethodName := ⟨RJ5, "inflate", "()V"⟩
abbrev cJ5_append_cf1ce : ByteArray := prog_10_method_22_code
def yJ5_append_cf1ce : MethodName := ⟨RJ5, "append", "(Ljava/lang/String;)Ljava/lang/AbstractStringBuilder;"⟩
abbrev cJ5_appendNull_278bc : ByteArray := prog_10_method_26_code
def yJ5_appendNull_278bc : MethodName := ⟨RJ5, "appendNull", "()Ljava/lang/AbstractStringBuilder;"⟩
abbrev cJ5_append_3fe6f : ByteArray := prog_10_method_31_code
def yJ5_append_3fe6f : MethodName := ⟨RJ5, "append", "(C)Ljava/lang/AbstractStringBuilder;"⟩
abbrev cJ5_append_c97b9 : ByteArray := prog_10_method_32_code
def yJ5_append_c97b9 : MethodName := ⟨RJ5, "append", "(I)Ljava/lang/AbstractStringBuilder;"⟩
abbrev cJ5_getValue_6d5f1 : ByteArray := prog_10_method_64_code
def yJ5_getValue_6d5f1 : MethodName := ⟨RJ5, "getValue", "()[B"⟩
abbrev cJ5_isLatin1_aae02 : ByteArray := prog_10_method_68_code
def yJ5_isLatin1_aae02 : MethodName := ⟨RJ5, "isLatin1", "()Z"⟩
abbrev cJ5_inflateIfNeededFor_a7421 : ByteArray := prog_10_method_71_code
def yJ5_inflateIfNeededFor_a7421 : MethodName := ⟨RJ5, "inflateIfNeededFor", "(Ljava/lang/String;)V"⟩
abbrev cJ5_putStringAt_47b60 : ByteArray := prog_10_method_73_code
def yJ5_putStringAt_47b60 : MethodName := ⟨RJ5, "putStringAt", "(ILjava/lang/String;)V"⟩
def RJx2cfe8 : String := "java/lang/Appendable"
def TJx2cfe8 : u_T := fun k => match k with
  | _ => ("", "", "", false)
def tyJx2cfe8 : Nat → FieldType := fun k => match k with
  | _ => .int
abbrev wsJx2cfe80 : List Cond := u_ws RJx2cfe8 TJx2cfe8 0
theorem nmJx2cfe8 : ∀ a, a < 0 → ∀ b, b < 0 → a ≠ b → (TJx2cfe8 a).2.1 ≠ (TJx2cfe8 b).2.1 := by decide +kernel
theorem tyJx2cfe8_ok : ∀ k, k < 0 → parseFieldDescriptor (TJx2cfe8 k).2.2.1 = some (tyJx2cfe8 k) := by decide +kernel
def RJx9f9b0 : String := "java/lang/CharSequence"
def TJx9f9b0 : u_T := fun k => match k with
  | _ => ("", "", "", false)
def tyJx9f9b0 : Nat → FieldType := fun k => match k with
  | _ => .int
abbrev wsJx9f9b00 : List Cond := u_ws RJx9f9b0 TJx9f9b0 0
theorem nmJx9f9b0 : ∀ a, a < 0 → ∀ b, b < 0 → a ≠ b → (TJx9f9b0 a).2.1 ≠ (TJx9f9b0 b).2.1 := by decide +kernel
theorem tyJx9f9b0_ok : ∀ k, k < 0 → parseFieldDescriptor (TJx9f9b0 k).2.2.1 = some (tyJx9f9b0 k) := by decide +kernel
def RJx8e188 : String := "java/lang/Cloneable"
def TJx8e188 : u_T := fun k => match k with
  | _ => ("", "", "", false)
def tyJx8e188 : Nat → FieldType := fun k => match k with
  | _ => .int
abbrev wsJx8e1880 : List Cond := u_ws RJx8e188 TJx8e188 0
theorem nmJx8e188 : ∀ a, a < 0 → ∀ b, b < 0 → a ≠ b → (TJx8e188 a).2.1 ≠ (TJx8e188 b).2.1 := by decide +kernel
theorem tyJx8e188_ok : ∀ k, k < 0 → parseFieldDescriptor (TJx8e188 k).2.2.1 = some (tyJx8e188 k) := by decide +kernel
def RJxb160c : String := "java/lang/Comparable"
def TJxb160c : u_T := fun k => match k with
  | _ => ("", "", "", false)
def tyJxb160c : Nat → FieldType := fun k => match k with
  | _ => .int
abbrev wsJxb160c0 : List Cond := u_ws RJxb160c TJxb160c 0
theorem nmJxb160c : ∀ a, a < 0 → ∀ b, b < 0 → a ≠ b → (TJxb160c a).2.1 ≠ (TJxb160c b).2.1 := by decide +kernel
theorem tyJxb160c_ok : ∀ k, k < 0 → parseFieldDescriptor (TJxb160c k).2.2.1 = some (tyJxb160c k) := by decide +kernel
def RJ6 : String := "java/lang/Integer"
def TJ6 : u_T := fun k => match k with
  | _ => ("", "", "", false)
def tyJ6 : Nat → FieldType := fun k => match k with
  | _ => .int
abbrev wsJ60 : List Cond := u_ws RJ6 TJ6 0
theorem nmJ6 : ∀ a, a < 0 → ∀ b, b < 0 → a ≠ b → (TJ6 a).2.1 ≠ (TJ6 b).2.1 := by decide +kernel
theorem tyJ6_ok : ∀ k, k < 0 → parseFieldDescriptor (TJ6 k).2.2.1 = some (tyJ6 k) := by decide +kernel
abbrev cJ6_getChars_ba4f3 : ByteArray := prog_19_method_12_code
def yJ6_getChars_ba4f3 : MethodName := ⟨RJ6, "getChars", "(II[B)I"⟩
abbrev cJ6_stringSize_0f7a4 : ByteArray := prog_19_method_13_code
def yJ6_stringSize_0f7a4 : MethodName := ⟨RJ6, "stringSize", "(I)I"⟩
abbrev cJ6_bitCount_0f7a4 : ByteArray := prog_19_method_49_code
def yJ6_bitCount_0f7a4 : MethodName := ⟨RJ6, "bitCount", "(I)I"⟩
def RJ9 : String := "java/lang/Math"
def TJ9 : u_T := fun k => match k with
  | _ => ("", "", "", false)
def tyJ9 : Nat → FieldType := fun k => match k with
  | _ => .int
abbrev wsJ90 : List Cond := u_ws RJ9 TJ9 0
theorem nmJ9 : ∀ a, a < 0 → ∀ b, b < 0 → a ≠ b → (TJ9 a).2.1 ≠ (TJ9 b).2.1 := by decide +kernel
theorem tyJ9_ok : ∀ k, k < 0 → parseFieldDescriptor (TJ9 k).2.2.1 = some (tyJ9 k) := by decide +kernel
abbrev cJ9_max_7cf53 : ByteArray := prog_20_method_65_code
def yJ9_max_7cf53 : MethodName := ⟨RJ9, "max", "(II)I"⟩
abbrev cJ9_min_7cf53 : ByteArray := prog_20_method_69_code
def yJ9_min_7cf53 : MethodName := ⟨RJ9, "min", "(II)I"⟩
def RJxd2413 : String := "java/lang/Number"
def TJxd2413 : u_T := fun k => match k with
  | _ => ("", "", "", false)
def tyJxd2413 : Nat → FieldType := fun k => match k with
  | _ => .int
abbrev wsJxd24130 : List Cond := u_ws RJxd2413 TJxd2413 0
theorem nmJxd2413 : ∀ a, a < 0 → ∀ b, b < 0 → a ≠ b → (TJxd2413 a).2.1 ≠ (TJxd2413 b).2.1 := by decide +kernel
theorem tyJxd2413_ok : ∀ k, k < 0 → parseFieldDescriptor (TJxd2413 k).2.2.1 = some (tyJxd2413 k) := by decide +kernel
def RJ0 : String := "java/lang/String"
def TJ0 : u_T := fun k => match k with
  | 0 => ("java/lang/String", "value", "[B", true)
  | 1 => ("java/lang/String", "coder", "B", true)
  | 2 => ("java/lang/String", "hash", "I", false)
  | _ => ("java/lang/String", "hashIsZero", "Z", false)
def tyJ0 : Nat → FieldType := fun k => match k with
  | 0 => .array .byte
  | 1 => .byte
  | 2 => .int
  | _ => .boolean
abbrev wsJ00 : List Cond := u_ws RJ0 TJ0 4
theorem nmJ0 : ∀ a, a < 4 → ∀ b, b < 4 → a ≠ b → (TJ0 a).2.1 ≠ (TJ0 b).2.1 := by decide +kernel
theorem tyJ0_ok : ∀ k, k < 4 → parseFieldDescriptor (TJ0 k).2.2.1 = some (tyJ0 k) := by decide +kernel
abbrev cJ0_init_81219 : ByteArray := prog_23_method_53_code
def yJ0_init_81219 : MethodName := ⟨RJ0, "<init>", "(Ljava/lang/StringBuilder;)V"⟩
abbrev cJ0_length_8abf5 : ByteArray := prog_23_method_54_code
def yJ0_length_8abf5 : MethodName := ⟨RJ0, "length", "()I"⟩
abbrev cJ0_charAt_5068e : ByteArray := prog_23_method_56_code
def yJ0_charAt_5068e : MethodName := ⟨RJ0, "charAt", "(I)C"⟩
abbrev cJ0_getBytes_840e7 : ByteArray := prog_23_method_147_code
def yJ0_getBytes_840e7 : MethodName := ⟨RJ0, "getBytes", "([BIB)V"⟩
abbrev cJ0_init_db425 : ByteArray := prog_23_method_150_code
def yJ0_init_db425 : MethodName := ⟨RJ0, "<init>", "(Ljava/lang/AbstractStringBuilder;Ljava/lang/Void;)V"⟩
abbrev cJ0_coder_7d493 : ByteArray := prog_23_method_152_code
def yJ0_coder_7d493 : MethodName := ⟨RJ0, "coder", "()B"⟩
abbrev cJ0_isLatin1_aae02 : ByteArray := prog_23_method_154_code
def yJ0_isLatin1_aae02 : MethodName := ⟨RJ0, "isLatin1", "()Z"⟩
abbrev cJ0_checkIndex_df160 : ByteArray := prog_23_method_155_code
def yJ0_checkIndex_df160 : MethodName := ⟨RJ0, "checkIndex", "(II)V"⟩
abbrev cJ0_checkBoundsOffCount_cabcc : ByteArray := prog_23_method_157_code
def yJ0_checkBoundsOffCount_cabcc : MethodName := ⟨RJ0, "checkBoundsOffCount", "(III)I"⟩
abbrev cJ0_checkBoundsBeginEnd_23922 : ByteArray := prog_23_method_158_code
def yJ0_checkBoundsBeginEnd_23922 : MethodName := ⟨RJ0, "checkBoundsBeginEnd", "(III)V"⟩
def RJ4 : String := "java/lang/StringBuilder"
def TJ4 : u_T := fun k => match k with
  | 0 => ("java/lang/AbstractStringBuilder", "value", "[B", false)
  | 1 => ("java/lang/AbstractStringBuilder", "coder", "B", false)
  | 2 => ("java/lang/AbstractStringBuilder", "maybeLatin1", "Z", false)
  | _ => ("java/lang/AbstractStringBuilder", "count", "I", false)
def tyJ4 : Nat → FieldType := fun k => match k with
  | 0 => .array .byte
  | 1 => .byte
  | 2 => .boolean
  | _ => .int
abbrev wsJ40 : List Cond := u_ws RJ4 TJ4 4
theorem nmJ4 : ∀ a, a < 4 → ∀ b, b < 4 → a ≠ b → (TJ4 a).2.1 ≠ (TJ4 b).2.1 := by decide +kernel
theorem tyJ4_ok : ∀ k, k < 4 → parseFieldDescriptor (TJ4 k).2.2.1 = some (tyJ4 k) := by decide +kernel
abbrev cJ4_init_da8c8 : ByteArray := prog_24_method_1_code
def yJ4_init_da8c8 : MethodName := ⟨RJ4, "<init>", "()V"⟩
abbrev cJ4_append_15ec4 : ByteArray := prog_24_method_7_code
def yJ4_append_15ec4 : MethodName := ⟨RJ4, "append", "(Ljava/lang/String;)Ljava/lang/StringBuilder;"⟩
abbrev cJ4_append_cf468 : ByteArray := prog_24_method_14_code
def yJ4_append_cf468 : MethodName := ⟨RJ4, "append", "(C)Ljava/lang/StringBuilder;"⟩
abbrev cJ4_append_bf812 : ByteArray := prog_24_method_15_code
def yJ4_append_bf812 : MethodName := ⟨RJ4, "append", "(I)Ljava/lang/StringBuilder;"⟩
abbrev cJ4_toString_0e30d : ByteArray := prog_24_method_42_code
def yJ4_toString_0e30d : MethodName := ⟨RJ4, "toString", "()Ljava/lang/String;"⟩
abbrev cJ4_length_8abf5 : ByteArray := prog_24_method_93_code
def yJ4_length_8abf5 : MethodName := ⟨RJ4, "length", "()I"⟩
def RJ1 : String := "java/lang/StringLatin1"
def TJ1 : u_T := fun k => match k with
  | _ => ("", "", "", false)
def tyJ1 : Nat → FieldType := fun k => match k with
  | _ => .int
abbrev wsJ10 : List Cond := u_ws RJ1 TJ1 0
theorem nmJ1 : ∀ a, a < 0 → ∀ b, b < 0 → a ≠ b → (TJ1 a).2.1 ≠ (TJ1 b).2.1 := by decide +kernel
theorem tyJ1_ok : ∀ k, k < 0 → parseFieldDescriptor (TJ1 k).2.2.1 = some (tyJ1 k) := by decide +kernel
abbrev cJ1_charAt_3b067 : ByteArray := prog_25_method_2_code
def yJ1_charAt_3b067 : MethodName := ⟨RJ1, "charAt", "([BI)C"⟩
abbrev cJ1_canEncode_fc78d : ByteArray := prog_25_method_3_code
def yJ1_canEncode_fc78d : MethodName := ⟨RJ1, "canEncode", "(C)Z"⟩
abbrev cJ1_inflate_0e8fd : ByteArray := prog_25_method_50_code
def yJ1_inflate_0e8fd : MethodName := ⟨RJ1, "inflate", "([BI[BII)V"⟩
def RJ2 : String := "java/lang/StringUTF16"
def TJ2 : u_T := fun k => match k with
  | _ => ("", "", "", false)
def tyJ2 : Nat → FieldType := fun k => match k with
  | _ => .int
abbrev wsJ20 : List Cond := u_ws RJ2 TJ2 0
theorem nmJ2 : ∀ a, a < 0 → ∀ b, b < 0 → a ≠ b → (TJ2 a).2.1 ≠ (TJ2 b).2.1 := by decide +kernel
theorem tyJ2_ok : ∀ k, k < 0 → parseFieldDescriptor (TJ2 k).2.2.1 = some (tyJ2 k) := by decide +kernel
abbrev cJ2_newBytesFor_77867 : ByteArray := prog_26_method_2_code
def yJ2_newBytesFor_77867 : MethodName := ⟨RJ2, "newBytesFor", "(I)[B"⟩
abbrev cJ2_newBytesLength_0f7a4 : ByteArray := prog_26_method_3_code
def yJ2_newBytesLength_0f7a4 : MethodName := ⟨RJ2, "newBytesLength", "(I)I"⟩
abbrev cJ2_putChar_b72d1 : ByteArray := prog_26_method_4_code
def yJ2_putChar_b72d1 : MethodName := ⟨RJ2, "putChar", "([BII)V"⟩
abbrev cJ2_getChar_3b067 : ByteArray := prog_26_method_5_code
def yJ2_getChar_3b067 : MethodName := ⟨RJ2, "getChar", "([BI)C"⟩
abbrev cJ2_length_9d52b : ByteArray := prog_26_method_6_code
def yJ2_length_9d52b : MethodName := ⟨RJ2, "length", "([B)I"⟩
abbrev cJ2_coderFromArrayLen_85cad : ByteArray := prog_26_method_15_code
def yJ2_coderFromArrayLen_85cad : MethodName := ⟨RJ2, "coderFromArrayLen", "([BI)B"⟩
abbrev cJ2_compress_39247 : ByteArray := prog_26_method_17_code
def yJ2_compress_39247 : MethodName := ⟨RJ2, "compress", "([BII)[B"⟩
abbrev cJ2_compress_5af95 : ByteArray := prog_26_method_22_code
def yJ2_compress_5af95 : MethodName := ⟨RJ2, "compress", "([BI[BII)I"⟩
abbrev cJ2_putCharSB_b72d1 : ByteArray := prog_26_method_71_code
def yJ2_putCharSB_b72d1 : MethodName := ⟨RJ2, "putCharSB", "([BII)V"⟩
abbrev cJ2_getChars_46870 : ByteArray := prog_26_method_77_code
def yJ2_getChars_46870 : MethodName := ⟨RJ2, "getChars", "(III[B)I"⟩
abbrev cJ2_putCharsAt_cd4e5 : ByteArray := prog_26_method_81_code
def yJ2_putCharsAt_cd4e5 : MethodName := ⟨RJ2, "putCharsAt", "([BICCCC)I"⟩
abbrev cJ2_charAt_3b067 : ByteArray := prog_26_method_83_code
def yJ2_charAt_3b067 : MethodName := ⟨RJ2, "charAt", "([BI)C"⟩
abbrev cJ2_inflate_0e8fd : ByteArray := prog_26_method_86_code
def yJ2_inflate_0e8fd : MethodName := ⟨RJ2, "inflate", "([BI[BII)V"⟩
abbrev cJ2_getChars_ba4f3 : ByteArray := prog_26_method_89_code
def yJ2_getChars_ba4f3 : MethodName := ⟨RJ2, "getChars", "(II[B)I"⟩
abbrev cJ2_checkIndex_2214a : ByteArray := prog_26_method_91_code
def yJ2_checkIndex_2214a : MethodName := ⟨RJ2, "checkIndex", "(I[B)V"⟩
abbrev cJ2_checkBoundsBeginEnd_d044e : ByteArray := prog_26_method_93_code
def yJ2_checkBoundsBeginEnd_d044e : MethodName := ⟨RJ2, "checkBoundsBeginEnd", "(II[B)V"⟩
abbrev cJ2_checkBoundsOffCount_d044e : ByteArray := prog_26_method_94_code
def yJ2_checkBoundsOffCount_d044e : MethodName := ⟨RJ2, "checkBoundsOffCount", "(II[B)V"⟩
def RJ10 : String := "java/lang/System"
def TJ10 : u_T := fun k => match k with
  | _ => ("", "", "", false)
def tyJ10 : Nat → FieldType := fun k => match k with
  | _ => .int
abbrev wsJ100 : List Cond := u_ws RJ10 TJ10 0
theorem nmJ10 : ∀ a, a < 0 → ∀ b, b < 0 → a ≠ b → (TJ10 a).2.1 ≠ (TJ10 b).2.1 := by decide +kernel
theorem tyJ10_ok : ∀ k, k < 0 → parseFieldDescriptor (TJ10 k).2.2.1 = some (tyJ10 k) := by decide +kernel
def RJxfd54e : String := "java/lang/constant/Constable"
def TJxfd54e : u_T := fun k => match k with
  | _ => ("", "", "", false)
def tyJxfd54e : Nat → FieldType := fun k => match k with
  | _ => .int
abbrev wsJxfd54e0 : List Cond := u_ws RJxfd54e TJxfd54e 0
theorem nmJxfd54e : ∀ a, a < 0 → ∀ b, b < 0 → a ≠ b → (TJxfd54e a).2.1 ≠ (TJxfd54e b).2.1 := by decide +kernel
theorem tyJxfd54e_ok : ∀ k, k < 0 → parseFieldDescriptor (TJxfd54e k).2.2.1 = some (tyJxfd54e k) := by decide +kernel
def RJx3cf43 : String := "java/lang/constant/ConstantDesc"
def TJx3cf43 : u_T := fun k => match k with
  | _ => ("", "", "", false)
def tyJx3cf43 : Nat → FieldType := fun k => match k with
  | _ => .int
abbrev wsJx3cf430 : List Cond := u_ws RJx3cf43 TJx3cf43 0
theorem nmJx3cf43 : ∀ a, a < 0 → ∀ b, b < 0 → a ≠ b → (TJx3cf43 a).2.1 ≠ (TJx3cf43 b).2.1 := by decide +kernel
theorem tyJx3cf43_ok : ∀ k, k < 0 → parseFieldDescriptor (TJx3cf43 k).2.2.1 = some (tyJx3cf43 k) := by decide +kernel
def RJ7 : String := "java/util/Arrays"
def TJ7 : u_T := fun k => match k with
  | _ => ("", "", "", false)
def tyJ7 : Nat → FieldType := fun k => match k with
  | _ => .int
abbrev wsJ70 : List Cond := u_ws RJ7 TJ7 0
theorem nmJ7 : ∀ a, a < 0 → ∀ b, b < 0 → a ≠ b → (TJ7 a).2.1 ≠ (TJ7 b).2.1 := by decide +kernel
theorem tyJ7_ok : ∀ k, k < 0 → parseFieldDescriptor (TJ7 k).2.2.1 = some (tyJ7 k) := by decide +kernel
abbrev cJ7_copyOf_9075b : ByteArray := prog_31_method_121_code
def yJ7_copyOf_9075b : MethodName := ⟨RJ7, "copyOf", "([BI)[B"⟩
abbrev cJ7_checkLength_df160 : ByteArray := prog_31_method_131_code
def yJ7_checkLength_df160 : MethodName := ⟨RJ7, "checkLength", "(II)V"⟩
abbrev cJ7_copyOfRange_39247 : ByteArray := prog_31_method_132_code
def yJ7_copyOfRange_39247 : MethodName := ⟨RJ7, "copyOfRange", "([BII)[B"⟩
abbrev cJ7_copyOfRangeByte_39247 : ByteArray := prog_31_method_133_code
def yJ7_copyOfRangeByte_39247 : MethodName := ⟨RJ7, "copyOfRangeByte", "([BII)[B"⟩
def RJ8 : String := "jdk/internal/util/ArraysSupport"
def TJ8 : u_T := fun k => match k with
  | _ => ("", "", "", false)
def tyJ8 : Nat → FieldType := fun k => match k with
  | _ => .int
abbrev wsJ80 : List Cond := u_ws RJ8 TJ8 0
theorem nmJ8 : ∀ a, a < 0 → ∀ b, b < 0 → a ≠ b → (TJ8 a).2.1 ≠ (TJ8 b).2.1 := by decide +kernel
theorem tyJ8_ok : ∀ k, k < 0 → parseFieldDescriptor (TJ8 k).2.2.1 = some (tyJ8 k) := by decide +kernel
abbrev cJ8_newLength_cabcc : ByteArray := prog_33_method_27_code
def yJ8_newLength_cabcc : MethodName := ⟨RJ8, "newLength", "(III)I"⟩
abbrev cJ8_hugeLength_7cf53 : ByteArray := prog_33_method_28_code
def yJ8_hugeLength_7cf53 : MethodName := ⟨RJ8, "hugeLength", "(II)I"⟩
def RJ3 : String := "jdk/internal/util/Preconditions"
def TJ3 : u_T := fun k => match k with
  | _ => ("", "", "", false)
def tyJ3 : Nat → FieldType := fun k => match k with
  | _ => .int
abbrev wsJ30 : List Cond := u_ws RJ3 TJ3 0
theorem nmJ3 : ∀ a, a < 0 → ∀ b, b < 0 → a ≠ b → (TJ3 a).2.1 ≠ (TJ3 b).2.1 := by decide +kernel
theorem tyJ3_ok : ∀ k, k < 0 → parseFieldDescriptor (TJ3 k).2.2.1 = some (tyJ3 k) := by decide +kernel
abbrev cJ3_checkIndex_8e157 : ByteArray := prog_34_method_11_code
def yJ3_checkIndex_8e157 : MethodName := ⟨RJ3, "checkIndex", "(IILjava/util/function/BiFunction;)I"⟩
abbrev cJ3_checkFromToIndex_8c36e : ByteArray := prog_34_method_12_code
def yJ3_checkFromToIndex_8c36e : MethodName := ⟨RJ3, "checkFromToIndex", "(IIILjava/util/function/BiFunction;)I"⟩
abbrev cJ3_checkFromIndexSize_8c36e : ByteArray := prog_34_method_13_code
def yJ3_checkFromIndexSize_8c36e : MethodName := ⟨RJ3, "checkFromIndexSize", "(IIILjava/util/function/BiFunction;)I"⟩
def RL : String := "HostelBedsLaw"
abbrev cL_cell : ByteArray := method_2_code
def yL_cell : MethodName := ⟨RL, "cell", "([II)I"⟩
abbrev cL_part : ByteArray := method_3_code
def yL_part : MethodName := ⟨RL, "part", "(II)I"⟩
abbrev cL_lays : ByteArray := method_4_code
def yL_lays : MethodName := ⟨RL, "lays", "(LHostelBeds;Ljava/lang/String;)V"⟩
abbrev cL_loads : ByteArray := method_5_code
def yL_loads : MethodName := ⟨RL, "loads", "(LHostelBeds;)I"⟩
abbrev cL_load : ByteArray := method_6_code
def yL_load : MethodName := ⟨RL, "load", "(LHostelBeds;Ljava/lang/String;)I"⟩
abbrev cL_roomsOf : ByteArray := method_7_code
def yL_roomsOf : MethodName := ⟨RL, "roomsOf", "([I)I"⟩
abbrev cL_setting : ByteArray := method_8_code
def yL_setting : MethodName := ⟨RL, "setting", "([II)I"⟩
abbrev cL_room : ByteArray := method_9_code
def yL_room : MethodName := ⟨RL, "room", "([III)I"⟩
abbrev cL_bookingsOf : ByteArray := method_10_code
def yL_bookingsOf : MethodName := ⟨RL, "bookingsOf", "([I)I"⟩
abbrev cL_booking : ByteArray := method_11_code
def yL_booking : MethodName := ⟨RL, "booking", "([III)I"⟩
abbrev cL_text : ByteArray := method_12_code
def yL_text : MethodName := ⟨RL, "text", "([I)Ljava/lang/String;"⟩
abbrev cL_noBed : ByteArray := method_13_code
def yL_noBed : MethodName := ⟨RL, "noBed", "(LHostelBeds;II)I"⟩
abbrev cL_noNumber : ByteArray := method_14_code
def yL_noNumber : MethodName := ⟨RL, "noNumber", "(LHostelBeds;II)I"⟩
abbrev cL_people : ByteArray := method_15_code
def yL_people : MethodName := ⟨RL, "people", "([II)I"⟩
abbrev cL_isIn : ByteArray := method_16_code
def yL_isIn : MethodName := ⟨RL, "isIn", "([III)Z"⟩
abbrev cL_beds : ByteArray := method_17_code
def yL_beds : MethodName := ⟨RL, "beds", "([I)I"⟩
abbrev cL_booked : ByteArray := method_18_code
def yL_booked : MethodName := ⟨RL, "booked", "([I[ZI)I"⟩
abbrev cL_accepted : ByteArray := method_19_code
def yL_accepted : MethodName := ⟨RL, "accepted", "([I)[Z"⟩
abbrev cL_isFree : ByteArray := method_20_code
def yL_isFree : MethodName := ⟨RL, "isFree", "([I[[III)Z"⟩
abbrev cL_free : ByteArray := method_21_code
def yL_free : MethodName := ⟨RL, "free", "([I[[III)I"⟩
abbrev cL_oneRoom : ByteArray := method_22_code
def yL_oneRoom : MethodName := ⟨RL, "oneRoom", "([I[[II)I"⟩
abbrev cL_isEnough : ByteArray := method_23_code
def yL_isEnough : MethodName := ⟨RL, "isEnough", "([I[[III)Z"⟩
abbrev cL_rooms : ByteArray := method_24_code
def yL_rooms : MethodName := ⟨RL, "rooms", "([I[[II)I"⟩
abbrev cL_bedFor : ByteArray := method_25_code
def yL_bedFor : MethodName := ⟨RL, "bedFor", "([I[[IIII)I"⟩
abbrev cL_placed : ByteArray := method_26_code
def yL_placed : MethodName := ⟨RL, "placed", "(LHostelBeds;[I[[II)I"⟩
abbrev cL_isHostel : ByteArray := method_27_code
def yL_isHostel : MethodName := ⟨RL, "isHostel", "(LHostelBeds;[I[Z)Z"⟩
abbrev cL_areChances : ByteArray := method_28_code
def yL_areChances : MethodName := ⟨RL, "areChances", "(LHostelBeds;[I[ZI)Z"⟩
abbrev cL_law : ByteArray := code
def yL_law : MethodName := ⟨RL, "law", "([I)Z"⟩
theorem wsL_law_x0 : ∀ w ∈ (vx_atS RX5 70 "java/lang/IllegalArgumentException" ["java/lang/RuntimeException", "java/lang/Exception"]).filter goodWord, w ∈ lw_tbl := by decide +kernel
theorem wsL_law_x1 : ∀ w ∈ (vx_atS RX5 59 "java/lang/IllegalStateException" ["java/lang/RuntimeException", "java/lang/Exception"]).filter goodWord, w ∈ lw_tbl := by decide +kernel
theorem wsL_law_x2 : ∀ w ∈ (vx_atS RX5 196 "java/lang/IndexOutOfBoundsException" ["java/lang/RuntimeException", "java/lang/Exception"]).filter goodWord, w ∈ lw_tbl := by decide +kernel
theorem inX6 : ∀ w ∈ wsX60, w ∈ lw_tbl := by decide +kernel
theorem inJx145de : ∀ w ∈ wsJx145de0, w ∈ lw_tbl := by decide +kernel
theorem inJ5 : ∀ w ∈ wsJ50, w ∈ lw_tbl := by decide +kernel
theorem inJx2cfe8 : ∀ w ∈ wsJx2cfe80, w ∈ lw_tbl := by decide +kernel
theorem inJx9f9b0 : ∀ w ∈ wsJx9f9b00, w ∈ lw_tbl := by decide +kernel
theorem inJx8e188 : ∀ w ∈ wsJx8e1880, w ∈ lw_tbl := by decide +kernel
theorem inJxb160c : ∀ w ∈ wsJxb160c0, w ∈ lw_tbl := by decide +kernel
theorem inJ6 : ∀ w ∈ wsJ60, w ∈ lw_tbl := by decide +kernel
theorem inJ9 : ∀ w ∈ wsJ90, w ∈ lw_tbl := by decide +kernel
theorem inJxd2413 : ∀ w ∈ wsJxd24130, w ∈ lw_tbl := by decide +kernel
theorem inJ1 : ∀ w ∈ wsJ10, w ∈ lw_tbl := by decide +kernel
theorem inJ2 : ∀ w ∈ wsJ20, w ∈ lw_tbl := by decide +kernel
theorem inJ10 : ∀ w ∈ wsJ100, w ∈ lw_tbl := by decide +kernel
theorem inJxfd54e : ∀ w ∈ wsJxfd54e0, w ∈ lw_tbl := by decide +kernel
theorem inJx3cf43 : ∀ w ∈ wsJx3cf430, w ∈ lw_tbl := by decide +kernel
theorem inJ7 : ∀ w ∈ wsJ70, w ∈ lw_tbl := by decide +kernel
theorem inJ8 : ∀ w ∈ wsJ80, w ∈ lw_tbl := by decide +kernel
theorem inJ3 : ∀ w ∈ wsJ30, w ∈ lw_tbl := by decide +kernel
theorem inX0 : ∀ w ∈ wsX00, w ∈ lw_tbl := by decide +kernel
theorem inX1 : ∀ w ∈ wsX10, w ∈ lw_tbl := by decide +kernel
theorem inX2 : ∀ w ∈ wsX20, w ∈ lw_tbl := by decide +kernel
theorem inX3 : ∀ w ∈ wsX30, w ∈ lw_tbl := by decide +kernel
theorem inX4 : ∀ w ∈ wsX40, w ∈ lw_tbl := by decide +kernel
theorem inX5 : ∀ w ∈ wsX50, w ∈ lw_tbl := by decide +kernel
theorem inJ0 : ∀ w ∈ wsJ00, w ∈ lw_tbl := by decide +kernel
theorem inJ4 : ∀ w ∈ wsJ40, w ∈ lw_tbl := by decide +kernel
abbrev vwCl : List vw_C := [(RJ0, TJ0, 4), (RJ4, TJ4, 4), (RX0, TX0, 11), (RX1, TX1, 12), (RX2, TX2, 7), (RX3, TX3, 8), (RX4, TX4, 5), (RX5, TX5, 12)]
