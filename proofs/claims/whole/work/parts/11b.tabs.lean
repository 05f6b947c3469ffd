/-! ===== the program's classes, methods, and the words of the tables about them (printed) ===== -/
def pm_T0 : u_T := fun k => match k with
  | 0 => ("LetHorizon", "told", "LLetHorizon$Told;", true)
  | 1 => ("LetHorizon", "line", "LLetHorizon$Line;", true)
  | 2 => ("LetHorizon", "book", "LLetHorizon$Book;", true)
  | 3 => ("LetHorizon", "imageTold", "LLetHorizon$Told;", true)
  | 4 => ("LetHorizon", "imageLine", "LLetHorizon$Line;", true)
  | 5 => ("LetHorizon", "imageBook", "LLetHorizon$Book;", true)
  | 6 => ("LetHorizon", "imageTaken", "Z", false)
  | 7 => ("LetHorizon", "past", "LLetHorizon$Past;", true)
  | 8 => ("LetHorizon", "tokens", "LLetHorizon$Tokens;", true)
  | 9 => ("LetHorizon", "reader", "LLetHorizon$Reader;", true)
  | 10 => ("LetHorizon", "asker", "LLetHorizon$Asker;", true)
  | 11 => ("LetHorizon", "works", "LLetHorizon$Works;", true)
  | 12 => ("LetHorizon", "spare", "LLetHorizon$Line;", true)
  | 13 => ("LetHorizon", "thinking", "LLetHorizon$Works;", true)
  | _ => ("LetHorizon", "thought", "LLetHorizon$Thought;", true)
def pm_T1 : u_T := fun k => match k with
  | 0 => ("LetHorizon$Asker", "told", "LLetHorizon$Told;", true)
  | 1 => ("LetHorizon$Asker", "named", "[I", true)
  | _ => ("LetHorizon$Asker", "waiting", "[I", true)
def pm_T2 : u_T := fun k => match k with
  | _ => ("LetHorizon$Book", "cells", "[I", true)
def pm_T3 : u_T := fun k => match k with
  | 0 => ("LetHorizon$Law", "lines", "I", false)
  | 1 => ("LetHorizon$Law", "steps", "I", false)
  | 2 => ("LetHorizon$Law", "word", "[I", true)
  | 3 => ("LetHorizon$Law", "start", "[I", true)
  | 4 => ("LetHorizon$Law", "middle", "[I", true)
  | 5 => ("LetHorizon$Law", "stop", "[I", true)
  | _ => ("LetHorizon$Law", "step", "[I", true)
def pm_T4 : u_T := fun k => match k with
  | 0 => ("LetHorizon$Line", "height", "[I", true)
  | 1 => ("LetHorizon$Line", "worn", "[I", true)
  | 2 => ("LetHorizon$Line", "at", "[I", true)
  | 3 => ("LetHorizon$Line", "scraped", "[I", true)
  | 4 => ("LetHorizon$Line", "coin", "I", false)
  | 5 => ("LetHorizon$Line", "breaks", "I", false)
  | 6 => ("LetHorizon$Line", "hour", "I", false)
  | 7 => ("LetHorizon$Line", "draws", "I", false)
  | _ => ("LetHorizon$Line", "bookLines", "I", false)
def pm_T5 : u_T := fun k => match k with
  | 0 => ("LetHorizon$Past", "kept", "[LLetHorizon$Line;", true)
  | _ => ("LetHorizon$Past", "count", "I", false)
def pm_T6 : u_T := fun k => match k with
  | 0 => ("LetHorizon$Reader", "tokens", "LLetHorizon$Tokens;", true)
  | 1 => ("LetHorizon$Reader", "told", "LLetHorizon$Told;", true)
  | 2 => ("LetHorizon$Reader", "law", "LLetHorizon$Law;", true)
  | _ => ("LetHorizon$Reader", "rows", "LLetHorizon$Rows;", true)
def pm_T7 : u_T := fun k => match k with
  | 0 => ("LetHorizon$Rows", "lines", "I", false)
  | _ => ("LetHorizon$Rows", "cells", "[I", true)
def pm_T8 : u_T := fun k => match k with
  | 0 => ("LetHorizon$Thought", "told", "LLetHorizon$Told;", true)
  | 1 => ("LetHorizon$Thought", "line", "LLetHorizon$Line;", true)
  | 2 => ("LetHorizon$Thought", "asker", "LLetHorizon$Asker;", true)
  | 3 => ("LetHorizon$Thought", "spare", "LLetHorizon$Line;", true)
  | 4 => ("LetHorizon$Thought", "clash", "[I", true)
  | 5 => ("LetHorizon$Thought", "pays", "[I", true)
  | 6 => ("LetHorizon$Thought", "feet", "[[I", true)
  | 7 => ("LetHorizon$Thought", "dusks", "[[I", true)
  | 8 => ("LetHorizon$Thought", "ways", "[J", true)
  | _ => ("LetHorizon$Thought", "weight", "[I", true)
def pm_T9 : u_T := fun k => match k with
  | 0 => ("LetHorizon$Tokens", "tape", "[B", true)
  | 1 => ("LetHorizon$Tokens", "length", "I", false)
  | 2 => ("LetHorizon$Tokens", "kind", "[I", true)
  | 3 => ("LetHorizon$Tokens", "place", "[I", true)
  | 4 => ("LetHorizon$Tokens", "value", "[I", true)
  | 5 => ("LetHorizon$Tokens", "count", "I", false)
  | 6 => ("LetHorizon$Tokens", "at", "I", false)
  | 7 => ("LetHorizon$Tokens", "fault", "I", false)
  | _ => ("LetHorizon$Tokens", "faultPlace", "I", false)
def pm_T10 : u_T := fun k => match k with
  | 0 => ("LetHorizon$Told", "w", "I", false)
  | 1 => ("LetHorizon$Told", "steep", "I", false)
  | 2 => ("LetHorizon$Told", "gusts", "I", false)
  | 3 => ("LetHorizon$Told", "ships", "I", false)
  | 4 => ("LetHorizon$Told", "draught", "[I", true)
  | 5 => ("LetHorizon$Told", "piers", "I", false)
  | 6 => ("LetHorizon$Told", "pierAt", "[I", true)
  | 7 => ("LetHorizon$Told", "pierEye", "[I", true)
  | 8 => ("LetHorizon$Told", "sunsets", "I", false)
  | 9 => ("LetHorizon$Told", "sunsetColumn", "[I", true)
  | 10 => ("LetHorizon$Told", "sunsetHour", "[I", true)
  | 11 => ("LetHorizon$Told", "law", "LLetHorizon$Law;", true)
  | 12 => ("LetHorizon$Told", "roster", "LLetHorizon$Rows;", true)
  | _ => ("LetHorizon$Told", "wants", "LLetHorizon$Rows;", true)
def pm_T11 : u_T := fun k => match k with
  | 0 => ("LetHorizon$Works", "told", "LLetHorizon$Told;", true)
  | 1 => ("LetHorizon$Works", "asker", "LLetHorizon$Asker;", true)
  | 2 => ("LetHorizon$Works", "book", "LLetHorizon$Book;", true)
  | 3 => ("LetHorizon$Works", "paid", "I", false)
  | 4 => ("LetHorizon$Works", "firstScraped", "I", false)
  | _ => ("LetHorizon$Works", "firstBroken", "I", false)
def pm_T12 : u_T := fun k => match k with
  | 0 => ("LetHorizonModel", "told", "I", false)
  | 1 => ("LetHorizonModel", "now", "[I", true)
  | 2 => ("LetHorizonModel", "rows", "[I", true)
  | 3 => ("LetHorizonModel", "undoable", "I", false)
  | 4 => ("LetHorizonModel", "waiting", "[I", true)
  | 5 => ("LetHorizonModel", "isThought", "Z", false)
  | 6 => ("LetHorizonModel", "wideBut", "I", false)
  | 7 => ("LetHorizonModel", "steepBut", "I", false)
  | 8 => ("LetHorizonModel", "gustOdds", "I", false)
  | 9 => ("LetHorizonModel", "ships", "I", false)
  | 10 => ("LetHorizonModel", "piers", "I", false)
  | 11 => ("LetHorizonModel", "draught", "[I", true)
  | 12 => ("LetHorizonModel", "pierAt", "[I", true)
  | 13 => ("LetHorizonModel", "eye", "[I", true)
  | 14 => ("LetHorizonModel", "book", "[I", true)
  | 15 => ("LetHorizonModel", "tape", "[I", true)
  | 16 => ("LetHorizonModel", "taped", "I", false)
  | 17 => ("LetHorizonModel", "spot", "I", false)
  | 18 => ("LetHorizonModel", "from", "I", false)
  | 19 => ("LetHorizonModel", "token", "I", false)
  | 20 => ("LetHorizonModel", "value", "I", false)
  | 21 => ("LetHorizonModel", "words", "[I", true)
  | 22 => ("LetHorizonModel", "lineMany", "[I", true)
  | 23 => ("LetHorizonModel", "lineWord", "[I", true)
  | 24 => ("LetHorizonModel", "lineFrom", "[I", true)
  | 25 => ("LetHorizonModel", "lineWhen", "[I", true)
  | 26 => ("LetHorizonModel", "lineTo", "[I", true)
  | 27 => ("LetHorizonModel", "op", "[I", true)
  | 28 => ("LetHorizonModel", "arg", "[I", true)
  | 29 => ("LetHorizonModel", "which", "I", false)
  | 30 => ("LetHorizonModel", "codes", "I", false)
  | 31 => ("LetHorizonModel", "open", "I", false)
  | 32 => ("LetHorizonModel", "pending", "[I", true)
  | 33 => ("LetHorizonModel", "pendings", "I", false)
  | 34 => ("LetHorizonModel", "readFault", "I", false)
  | 35 => ("LetHorizonModel", "readPlace", "I", false)
  | 36 => ("LetHorizonModel", "faultKind", "I", false)
  | 37 => ("LetHorizonModel", "faultPlace", "I", false)
  | 38 => ("LetHorizonModel", "rosterMany", "I", false)
  | 39 => ("LetHorizonModel", "roster", "[I", true)
  | 40 => ("LetHorizonModel", "wantMany", "I", false)
  | 41 => ("LetHorizonModel", "wants", "[I", true)
  | 42 => ("LetHorizonModel", "asked", "[I", true)
  | 43 => ("LetHorizonModel", "stack", "[I", true)
  | 44 => ("LetHorizonModel", "scrapedFirst", "I", false)
  | 45 => ("LetHorizonModel", "brokenFirst", "I", false)
  | 46 => ("LetHorizonModel", "smoothFrom", "[I", true)
  | 47 => ("LetHorizonModel", "sunsetMany", "I", false)
  | 48 => ("LetHorizonModel", "sunsets", "[I", true)
  | 49 => ("LetHorizonModel", "fitting", "[I", true)
  | 50 => ("LetHorizonModel", "fittingMany", "I", false)
  | 51 => ("LetHorizonModel", "alike", "[I", true)
  | 52 => ("LetHorizonModel", "coilLong", "[I", true)
  | 53 => ("LetHorizonModel", "mooredFrom", "[I", true)
  | 54 => ("LetHorizonModel", "isTaking", "Z", false)
  | 55 => ("LetHorizonModel", "hasImage", "Z", false)
  | 56 => ("LetHorizonModel", "keptAt", "I", false)
  | _ => ("LetHorizonModel", "images", "[I", true)
def pm_cl : List vw_C := [("LetHorizon", pm_T0, 15), ("LetHorizon$Asker", pm_T1, 3), ("LetHorizon$Book", pm_T2, 1), ("LetHorizon$Law", pm_T3, 7), ("LetHorizon$Line", pm_T4, 9), ("LetHorizon$Past", pm_T5, 2), ("LetHorizon$Reader", pm_T6, 4), ("LetHorizon$Rows", pm_T7, 2), ("LetHorizon$Thought", pm_T8, 10), ("LetHorizon$Tokens", pm_T9, 9), ("LetHorizon$Told", pm_T10, 14), ("LetHorizon$Works", pm_T11, 6), ("LetHorizonModel", pm_T12, 58)]
def pm_q0 : ma_M := (⟨"LetHorizon", "<init>", "()V"⟩, prog_1_method_1_code, 1, (Option.none : Option Jvm.ClassFile.FieldType), false)
def pm_q1 : ma_M := (⟨"LetHorizon", "state", "(I)I"⟩, prog_1_method_2_code, 3, (Option.some FieldType.int), false)
def pm_q2 : ma_M := (⟨"LetHorizon", "sea", "(I)Z"⟩, prog_1_method_3_code, 2, (Option.some FieldType.boolean), false)
def pm_q3 : ma_M := (⟨"LetHorizon", "within", "(III)Z"⟩, prog_1_method_40_code, 3, (Option.some FieldType.boolean), true)
def pm_q4 : ma_M := (⟨"LetHorizon", "ship", "(II)I"⟩, prog_1_method_4_code, 4, (Option.some FieldType.int), false)
def pm_q5 : ma_M := (⟨"LetHorizon", "pier", "(II)I"⟩, prog_1_method_5_code, 4, (Option.some FieldType.int), false)
def pm_q6 : ma_M := (⟨"LetHorizon", "set", "(III)Z"⟩, prog_1_method_6_code, 5, (Option.some FieldType.boolean), false)
def pm_q7 : ma_M := (⟨"LetHorizon", "changeRule", "(II)Z"⟩, prog_1_method_7_code, 3, (Option.some FieldType.boolean), false)
def pm_q8 : ma_M := (⟨"LetHorizon", "changeOne", "(III)Z"⟩, prog_1_method_8_code, 4, (Option.some FieldType.boolean), false)
def pm_q9 : ma_M := (⟨"LetHorizon", "raise", "(II)I"⟩, prog_1_method_9_code, 3, (Option.some FieldType.int), false)
def pm_q10 : ma_M := (⟨"LetHorizon", "hold", "(III)I"⟩, prog_1_method_41_code, 3, (Option.some FieldType.int), true)
def pm_q11 : ma_M := (⟨"LetHorizon", "lift", "(I)I"⟩, prog_1_method_10_code, 2, (Option.some FieldType.int), false)
def pm_q12 : ma_M := (⟨"LetHorizon", "mend", "(I)I"⟩, prog_1_method_11_code, 2, (Option.some FieldType.int), false)
def pm_q13 : ma_M := (⟨"LetHorizon", "hours", "(I)I"⟩, prog_1_method_12_code, 3, (Option.some FieldType.int), false)
def pm_q14 : ma_M := (⟨"LetHorizon", "feed", "(IIIII)I"⟩, prog_1_method_13_code, 6, (Option.some FieldType.int), false)
def pm_q15 : ma_M := (⟨"LetHorizon", "end", "(I)Z"⟩, prog_1_method_14_code, 2, (Option.some FieldType.boolean), false)
def pm_q16 : ma_M := (⟨"LetHorizon", "text", "(I)I"⟩, prog_1_method_15_code, 2, (Option.some FieldType.int), false)
def pm_q17 : ma_M := (⟨"LetHorizon", "newRoster", "()I"⟩, prog_1_method_16_code, 2, (Option.some FieldType.int), false)
def pm_q18 : ma_M := (⟨"LetHorizon", "fault", "(I)I"⟩, prog_1_method_17_code, 2, (Option.some FieldType.int), false)
def pm_q19 : ma_M := (⟨"LetHorizon", "of", "(II)I"⟩, prog_1_method_18_code, 3, (Option.some FieldType.int), false)
def pm_q20 : ma_M := (⟨"LetHorizon", "sun", "(II)I"⟩, prog_1_method_19_code, 3, (Option.some FieldType.int), false)
def pm_q21 : ma_M := (⟨"LetHorizon", "costs", "(II)I"⟩, prog_1_method_20_code, 3, (Option.some FieldType.int), false)
def pm_q22 : ma_M := (⟨"LetHorizon", "shipOf", "(II)I"⟩, prog_1_method_21_code, 3, (Option.some FieldType.int), false)
def pm_q23 : ma_M := (⟨"LetHorizon", "pierOf", "(II)I"⟩, prog_1_method_22_code, 3, (Option.some FieldType.int), false)
def pm_q24 : ma_M := (⟨"LetHorizon", "book", "(II)I"⟩, prog_1_method_23_code, 3, (Option.some FieldType.int), false)
def pm_q25 : ma_M := (⟨"LetHorizon", "goes", "(II)I"⟩, prog_1_method_24_code, 4, (Option.some FieldType.int), false)
def pm_q26 : ma_M := (⟨"LetHorizon", "meets", "(II)I"⟩, prog_1_method_25_code, 3, (Option.some FieldType.int), false)
def pm_q27 : ma_M := (⟨"LetHorizon", "smooth", "(I)I"⟩, prog_1_method_26_code, 2, (Option.some FieldType.int), false)
def pm_q28 : ma_M := (⟨"LetHorizon", "numbered", "(I)I"⟩, prog_1_method_42_code, 1, (Option.some FieldType.int), true)
def pm_q29 : ma_M := (⟨"LetHorizon", "folds", "()I"⟩, prog_1_method_27_code, 1, (Option.some FieldType.int), false)
def pm_q30 : ma_M := (⟨"LetHorizon", "sunset", "(II)I"⟩, prog_1_method_28_code, 4, (Option.some FieldType.int), false)
def pm_q31 : ma_M := (⟨"LetHorizon", "lifted", "(I)I"⟩, prog_1_method_29_code, 2, (Option.some FieldType.int), false)
def pm_q32 : ma_M := (⟨"LetHorizon", "over", "(I)I"⟩, prog_1_method_30_code, 2, (Option.some FieldType.int), false)
def pm_q33 : ma_M := (⟨"LetHorizon", "watch", "(I)I"⟩, prog_1_method_31_code, 3, (Option.some FieldType.int), false)
def pm_q34 : ma_M := (⟨"LetHorizon", "coils", "(II)I"⟩, prog_1_method_32_code, 3, (Option.some FieldType.int), false)
def pm_q35 : ma_M := (⟨"LetHorizon", "moors", "(I)I"⟩, prog_1_method_33_code, 2, (Option.some FieldType.int), false)
def pm_q36 : ma_M := (⟨"LetHorizon", "fee", "(II)I"⟩, prog_1_method_34_code, 4, (Option.some FieldType.int), false)
def pm_q37 : ma_M := (⟨"LetHorizon", "part", "(II)I"⟩, prog_1_method_35_code, 3, (Option.some FieldType.int), false)
def pm_q38 : ma_M := (⟨"LetHorizon", "game", "(I)I"⟩, prog_1_method_36_code, 2, (Option.some FieldType.int), false)
def pm_q39 : ma_M := (⟨"LetHorizon", "undo", "()Z"⟩, prog_1_method_37_code, 1, (Option.some FieldType.boolean), false)
def pm_q40 : ma_M := (⟨"LetHorizon", "image", "(Z)Z"⟩, prog_1_method_38_code, 2, (Option.some FieldType.boolean), false)
def pm_q41 : ma_M := (⟨"LetHorizon", "look", "(I)I"⟩, prog_1_method_39_code, 2, (Option.some FieldType.int), false)
def pm_q42 : ma_M := (⟨"LetHorizon$Asker", "<init>", "(LLetHorizon$Told;)V"⟩, prog_2_method_1_code, 2, (Option.none : Option Jvm.ClassFile.FieldType), false)
def pm_q43 : ma_M := (⟨"LetHorizon$Asker", "cost", "(LLetHorizon$Line;II)I"⟩, prog_2_method_4_code, 4, (Option.some FieldType.int), false)
def pm_q44 : ma_M := (⟨"LetHorizon$Asker", "name", "(LLetHorizon$Line;I)V"⟩, prog_2_method_8_code, 3, (Option.none : Option Jvm.ClassFile.FieldType), false)
def pm_q45 : ma_M := (⟨"LetHorizon$Asker", "leans", "(LLetHorizon$Line;I)I"⟩, prog_2_method_7_code, 8, (Option.some FieldType.int), false)
def pm_q46 : ma_M := (⟨"LetHorizon$Asker", "tell", "(I)I"⟩, prog_2_method_9_code, 4, (Option.some FieldType.int), false)
def pm_q47 : ma_M := (⟨"LetHorizon$Asker", "work", "(II)I"⟩, prog_2_method_11_code, 10, (Option.some FieldType.int), false)
def pm_q48 : ma_M := (⟨"LetHorizon$Asker", "unlessTold", "(I)I"⟩, prog_2_method_10_code, 2, (Option.some FieldType.int), false)
def pm_q49 : ma_M := (⟨"LetHorizon$Asker", "slide", "(LLetHorizon$Line;I)I"⟩, prog_2_method_3_code, 3, (Option.some FieldType.int), false)
def pm_q50 : ma_M := (⟨"LetHorizon$Asker", "wear", "(LLetHorizon$Line;I)I"⟩, prog_2_method_2_code, 3, (Option.some FieldType.int), false)
def pm_q51 : ma_M := (⟨"LetHorizon$Asker", "dusk", "(LLetHorizon$Line;I)I"⟩, prog_2_method_6_code, 4, (Option.some FieldType.int), false)
def pm_q52 : ma_M := (⟨"LetHorizon$Asker", "sunAt", "(LLetHorizon$Line;II)I"⟩, prog_2_method_5_code, 4, (Option.some FieldType.int), false)
def pm_q53 : ma_M := (⟨"LetHorizon$Book", "<init>", "()V"⟩, prog_3_method_1_code, 1, (Option.none : Option Jvm.ClassFile.FieldType), false)
def pm_q54 : ma_M := (⟨"LetHorizon$Book", "write", "(LLetHorizon$Line;III)V"⟩, prog_3_method_3_code, 6, (Option.none : Option Jvm.ClassFile.FieldType), false)
def pm_q55 : ma_M := (⟨"LetHorizon$Book", "cell", "(II)I"⟩, prog_3_method_2_code, 4, (Option.some FieldType.int), false)
def pm_q56 : ma_M := (⟨"LetHorizon$Book", "copy", "(LLetHorizon$Book;)V"⟩, prog_3_method_4_code, 2, (Option.none : Option Jvm.ClassFile.FieldType), false)
def pm_q57 : ma_M := (⟨"LetHorizon$Law", "<init>", "()V"⟩, prog_4_method_1_code, 1, (Option.none : Option Jvm.ClassFile.FieldType), false)
def pm_q58 : ma_M := (⟨"LetHorizon$Law", "empty", "()V"⟩, prog_4_method_2_code, 1, (Option.none : Option Jvm.ClassFile.FieldType), false)
def pm_q59 : ma_M := (⟨"LetHorizon$Law", "put", "(II)V"⟩, prog_4_method_3_code, 3, (Option.none : Option Jvm.ClassFile.FieldType), false)
def pm_q60 : ma_M := (⟨"LetHorizon$Law", "putIfAny", "(I)V"⟩, prog_4_method_4_code, 2, (Option.none : Option Jvm.ClassFile.FieldType), false)
def pm_q61 : ma_M := (⟨"LetHorizon$Law", "addLine", "(III)V"⟩, prog_4_method_5_code, 4, (Option.none : Option Jvm.ClassFile.FieldType), false)
def pm_q62 : ma_M := (⟨"LetHorizon$Law", "copy", "(LLetHorizon$Law;)V"⟩, prog_4_method_6_code, 2, (Option.none : Option Jvm.ClassFile.FieldType), false)
def pm_q63 : ma_M := (⟨"LetHorizon$Line", "<init>", "()V"⟩, prog_5_method_1_code, 1, (Option.none : Option Jvm.ClassFile.FieldType), false)
def pm_q64 : ma_M := (⟨"LetHorizon$Line", "begin", "()V"⟩, prog_5_method_2_code, 2, (Option.none : Option Jvm.ClassFile.FieldType), false)
def pm_q65 : ma_M := (⟨"LetHorizon$Line", "copy", "(LLetHorizon$Line;)V"⟩, prog_5_method_3_code, 2, (Option.none : Option Jvm.ClassFile.FieldType), false)
def pm_q66 : ma_M := (⟨"LetHorizon$Line", "draw", "(I)I"⟩, prog_5_method_4_code, 2, (Option.some FieldType.int), false)
def pm_q67 : ma_M := (⟨"LetHorizon$Past", "<init>", "()V"⟩, prog_6_method_1_code, 2, (Option.none : Option Jvm.ClassFile.FieldType), false)
def pm_q68 : ma_M := (⟨"LetHorizon$Past", "forget", "()V"⟩, prog_6_method_5_code, 1, (Option.none : Option Jvm.ClassFile.FieldType), false)
def pm_q69 : ma_M := (⟨"LetHorizon$Past", "keep", "(LLetHorizon$Line;)V"⟩, prog_6_method_2_code, 3, (Option.none : Option Jvm.ClassFile.FieldType), false)
def pm_q70 : ma_M := (⟨"LetHorizon$Past", "dropOldest", "()V"⟩, prog_6_method_3_code, 3, (Option.none : Option Jvm.ClassFile.FieldType), false)
def pm_q71 : ma_M := (⟨"LetHorizon$Past", "goBack", "(LLetHorizon$Line;)Z"⟩, prog_6_method_4_code, 3, (Option.some FieldType.boolean), false)
def pm_q72 : ma_M := (⟨"LetHorizon$Reader", "<init>", "(LLetHorizon$Tokens;LLetHorizon$Told;)V"⟩, prog_7_method_1_code, 3, (Option.none : Option Jvm.ClassFile.FieldType), false)
def pm_q73 : ma_M := (⟨"LetHorizon$Reader", "readLaw", "()I"⟩, prog_7_method_2_code, 2, (Option.some FieldType.int), false)
def pm_q74 : ma_M := (⟨"LetHorizon$Reader", "readLawLine", "()Z"⟩, prog_7_method_5_code, 4, (Option.some FieldType.boolean), false)
def pm_q75 : ma_M := (⟨"LetHorizon$Reader", "readSum", "()Z"⟩, prog_7_method_8_code, 5, (Option.some FieldType.boolean), false)
def pm_q76 : ma_M := (⟨"LetHorizon$Reader", "readOperand", "()Z"⟩, prog_7_method_9_code, 2, (Option.some FieldType.boolean), false)
def pm_q77 : ma_M := (⟨"LetHorizon$Reader", "readDivisor", "()Z"⟩, prog_7_method_10_code, 1, (Option.some FieldType.boolean), false)
def pm_q78 : ma_M := (⟨"LetHorizon$Reader", "readCondition", "(I)Z"⟩, prog_7_method_6_code, 6, (Option.some FieldType.boolean), false)
def pm_q79 : ma_M := (⟨"LetHorizon$Reader", "readOne", "(I)Z"⟩, prog_7_method_7_code, 4, (Option.some FieldType.boolean), false)
def pm_q80 : ma_M := (⟨"LetHorizon$Reader", "readRoster", "()I"⟩, prog_7_method_3_code, 1, (Option.some FieldType.int), false)
def pm_q81 : ma_M := (⟨"LetHorizon$Reader", "readRows", "(II)Z"⟩, prog_7_method_11_code, 4, (Option.some FieldType.boolean), false)
def pm_q82 : ma_M := (⟨"LetHorizon$Reader", "readTask", "()Z"⟩, prog_7_method_12_code, 2, (Option.some FieldType.boolean), false)
def pm_q83 : ma_M := (⟨"LetHorizon$Reader", "readCell", "(III)Z"⟩, prog_7_method_14_code, 4, (Option.some FieldType.boolean), false)
def pm_q84 : ma_M := (⟨"LetHorizon$Reader", "readWant", "()Z"⟩, prog_7_method_13_code, 1, (Option.some FieldType.boolean), false)
def pm_q85 : ma_M := (⟨"LetHorizon$Reader", "readWants", "()I"⟩, prog_7_method_4_code, 1, (Option.some FieldType.int), false)
def pm_q86 : ma_M := (⟨"LetHorizon$Rows", "<init>", "()V"⟩, prog_8_method_1_code, 1, (Option.none : Option Jvm.ClassFile.FieldType), false)
def pm_q87 : ma_M := (⟨"LetHorizon$Rows", "cell", "(II)I"⟩, prog_8_method_2_code, 4, (Option.some FieldType.int), false)
def pm_q88 : ma_M := (⟨"LetHorizon$Rows", "put", "(II)V"⟩, prog_8_method_3_code, 4, (Option.none : Option Jvm.ClassFile.FieldType), false)
def pm_q89 : ma_M := (⟨"LetHorizon$Rows", "copy", "(LLetHorizon$Rows;)V"⟩, prog_8_method_4_code, 2, (Option.none : Option Jvm.ClassFile.FieldType), false)
def pm_q90 : ma_M := (⟨"LetHorizon$Thought", "<init>", "(LLetHorizon$Told;LLetHorizon$Line;LLetHorizon$Asker;LLetHorizon$Line;)V"⟩, prog_9_method_1_code, 5, (Option.none : Option Jvm.ClassFile.FieldType), false)
def pm_q91 : ma_M := (⟨"LetHorizon$Thought", "sees", "(I)I"⟩, prog_9_method_21_code, 6, (Option.some FieldType.int), false)
def pm_q92 : ma_M := (⟨"LetHorizon$Thought", "allScraped", "(LLetHorizon$Line;)I"⟩, prog_9_method_2_code, 4, (Option.some FieldType.int), false)
def pm_q93 : ma_M := (⟨"LetHorizon$Thought", "meetable", "(II)I"⟩, prog_9_method_3_code, 5, (Option.some FieldType.int), false)
def pm_q94 : ma_M := (⟨"LetHorizon$Thought", "wantedSet", "(I)I"⟩, prog_9_method_4_code, 4, (Option.some FieldType.int), false)
def pm_q95 : ma_M := (⟨"LetHorizon$Thought", "clashesOf", "(I)I"⟩, prog_9_method_5_code, 6, (Option.some FieldType.int), false)
def pm_q96 : ma_M := (⟨"LetHorizon$Thought", "firstClash", "(IZ)I"⟩, prog_9_method_6_code, 5, (Option.some FieldType.int), false)
def pm_q97 : ma_M := (⟨"LetHorizon$Thought", "lowest", "(I)I"⟩, prog_9_method_7_code, 2, (Option.some FieldType.int), true)
def pm_q98 : ma_M := (⟨"LetHorizon$Thought", "bestMet", "([I[III)I"⟩, prog_9_method_8_code, 6, (Option.some FieldType.int), true)
def pm_q99 : ma_M := (⟨"LetHorizon$Thought", "smoothed", "(I)I"⟩, prog_9_method_9_code, 4, (Option.some FieldType.int), false)
def pm_q100 : ma_M := (⟨"LetHorizon$Thought", "leastNear", "(III)I"⟩, prog_9_method_10_code, 6, (Option.some FieldType.int), false)
def pm_q101 : ma_M := (⟨"LetHorizon$Thought", "foldSet", "()I"⟩, prog_9_method_11_code, 3, (Option.some FieldType.int), false)
def pm_q102 : ma_M := (⟨"LetHorizon$Thought", "slidesInto", "(II)Z"⟩, prog_9_method_12_code, 3, (Option.some FieldType.boolean), false)
def pm_q103 : ma_M := (⟨"LetHorizon$Thought", "lifts", "(I)I"⟩, prog_9_method_13_code, 5, (Option.some FieldType.int), false)
def pm_q104 : ma_M := (⟨"LetHorizon$Thought", "emptyDusks", "()V"⟩, prog_9_method_16_code, 3, (Option.none : Option Jvm.ClassFile.FieldType), false)
def pm_q105 : ma_M := (⟨"LetHorizon$Thought", "liftSpare", "(I)V"⟩, prog_9_method_14_code, 3, (Option.none : Option Jvm.ClassFile.FieldType), false)
def pm_q106 : ma_M := (⟨"LetHorizon$Thought", "fitsSunsets", "()Z"⟩, prog_9_method_15_code, 2, (Option.some FieldType.boolean), false)
def pm_q107 : ma_M := (⟨"LetHorizon$Thought", "countDusks", "()V"⟩, prog_9_method_17_code, 2, (Option.none : Option Jvm.ClassFile.FieldType), false)
def pm_q108 : ma_M := (⟨"LetHorizon$Thought", "duskOr24", "(LLetHorizon$Line;I)I"⟩, prog_9_method_18_code, 4, (Option.some FieldType.int), false)
def pm_q109 : ma_M := (⟨"LetHorizon$Thought", "bestLook", "()I"⟩, prog_9_method_19_code, 3, (Option.some FieldType.int), false)
def pm_q110 : ma_M := (⟨"LetHorizon$Thought", "greatestGroup", "(I)I"⟩, prog_9_method_20_code, 4, (Option.some FieldType.int), false)
def pm_q111 : ma_M := (⟨"LetHorizon$Thought", "seers", "(I)I"⟩, prog_9_method_22_code, 4, (Option.some FieldType.int), false)
def pm_q112 : ma_M := (⟨"LetHorizon$Thought", "fewestSeers", "()I"⟩, prog_9_method_23_code, 4, (Option.some FieldType.int), false)
def pm_q113 : ma_M := (⟨"LetHorizon$Thought", "seenBy", "(I)I"⟩, prog_9_method_24_code, 4, (Option.some FieldType.int), false)
def pm_q114 : ma_M := (⟨"LetHorizon$Thought", "coiled", "(II)I"⟩, prog_9_method_25_code, 8, (Option.some FieldType.int), false)
def pm_q115 : ma_M := (⟨"LetHorizon$Thought", "moored", "(I)I"⟩, prog_9_method_26_code, 5, (Option.some FieldType.int), false)
def pm_q116 : ma_M := (⟨"LetHorizon$Thought", "wayWith", "(II)J"⟩, prog_9_method_28_code, 8, (Option.some FieldType.long), false)
def pm_q117 : ma_M := (⟨"LetHorizon$Thought", "shiftOf", "(I)I"⟩, prog_9_method_27_code, 1, (Option.some FieldType.int), true)
def pm_q118 : ma_M := (⟨"LetHorizon$Thought", "shareOf", "(II)I"⟩, prog_9_method_29_code, 9, (Option.some FieldType.int), false)
def pm_q119 : ma_M := (⟨"LetHorizon$Thought", "goodMove", "(I)I"⟩, prog_9_method_30_code, 6, (Option.some FieldType.int), false)
def pm_q120 : ma_M := (⟨"LetHorizon$Tokens", "<init>", "()V"⟩, prog_10_method_1_code, 1, (Option.none : Option Jvm.ClassFile.FieldType), false)
def pm_q121 : ma_M := (⟨"LetHorizon$Tokens", "append", "(I)V"⟩, prog_10_method_2_code, 3, (Option.none : Option Jvm.ClassFile.FieldType), false)
def pm_q122 : ma_M := (⟨"LetHorizon$Tokens", "cut", "()V"⟩, prog_10_method_3_code, 3, (Option.none : Option Jvm.ClassFile.FieldType), false)
def pm_q123 : ma_M := (⟨"LetHorizon$Tokens", "isBlank", "(B)Z"⟩, prog_10_method_8_code, 1, (Option.some FieldType.boolean), true)
def pm_q124 : ma_M := (⟨"LetHorizon$Tokens", "cutOne", "(I)I"⟩, prog_10_method_4_code, 4, (Option.some FieldType.int), false)
def pm_q125 : ma_M := (⟨"LetHorizon$Tokens", "isLetter", "(B)Z"⟩, prog_10_method_9_code, 1, (Option.some FieldType.boolean), true)
def pm_q126 : ma_M := (⟨"LetHorizon$Tokens", "keyword", "(II)I"⟩, prog_10_method_6_code, 7, (Option.some FieldType.int), false)
def pm_q127 : ma_M := (⟨"LetHorizon$Tokens", "add", "(III)V"⟩, prog_10_method_5_code, 4, (Option.none : Option Jvm.ClassFile.FieldType), false)
def pm_q128 : ma_M := (⟨"LetHorizon$Tokens", "isDigit", "(B)Z"⟩, prog_10_method_10_code, 1, (Option.some FieldType.boolean), true)
def pm_q129 : ma_M := (⟨"LetHorizon$Tokens", "number", "(II)I"⟩, prog_10_method_7_code, 5, (Option.some FieldType.int), false)
def pm_q130 : ma_M := (⟨"LetHorizon$Tokens", "now", "()I"⟩, prog_10_method_11_code, 1, (Option.some FieldType.int), false)
def pm_q131 : ma_M := (⟨"LetHorizon$Tokens", "fail", "(I)Z"⟩, prog_10_method_15_code, 2, (Option.some FieldType.boolean), false)
def pm_q132 : ma_M := (⟨"LetHorizon$Tokens", "skip", "()V"⟩, prog_10_method_13_code, 1, (Option.none : Option Jvm.ClassFile.FieldType), false)
def pm_q133 : ma_M := (⟨"LetHorizon$Tokens", "amount", "()I"⟩, prog_10_method_12_code, 1, (Option.some FieldType.int), false)
def pm_q134 : ma_M := (⟨"LetHorizon$Tokens", "take", "(I)Z"⟩, prog_10_method_14_code, 2, (Option.some FieldType.boolean), false)
def pm_q135 : ma_M := (⟨"LetHorizon$Told", "<init>", "()V"⟩, prog_11_method_1_code, 1, (Option.none : Option Jvm.ClassFile.FieldType), false)
def pm_q136 : ma_M := (⟨"LetHorizon$Told", "begin", "(I)V"⟩, prog_11_method_2_code, 2, (Option.none : Option Jvm.ClassFile.FieldType), false)
def pm_q137 : ma_M := (⟨"LetHorizon$Told", "isColumn", "(I)Z"⟩, prog_11_method_4_code, 2, (Option.some FieldType.boolean), false)
def pm_q138 : ma_M := (⟨"LetHorizon$Told", "isShip", "(I)Z"⟩, prog_11_method_5_code, 2, (Option.some FieldType.boolean), false)
def pm_q139 : ma_M := (⟨"LetHorizon$Told", "isPier", "(I)Z"⟩, prog_11_method_6_code, 2, (Option.some FieldType.boolean), false)
def pm_q140 : ma_M := (⟨"LetHorizon$Told", "kept", "(I)I"⟩, prog_11_method_7_code, 2, (Option.some FieldType.int), false)
def pm_q141 : ma_M := (⟨"LetHorizon$Told", "isWanted", "(II)Z"⟩, prog_11_method_9_code, 3, (Option.some FieldType.boolean), false)
def pm_q142 : ma_M := (⟨"LetHorizon$Told", "wantedColumn", "(I)I"⟩, prog_11_method_10_code, 3, (Option.some FieldType.int), false)
def pm_q143 : ma_M := (⟨"LetHorizon$Told", "allColumns", "()I"⟩, prog_11_method_8_code, 1, (Option.some FieldType.int), false)
def pm_q144 : ma_M := (⟨"LetHorizon$Told", "copy", "(LLetHorizon$Told;)V"⟩, prog_11_method_3_code, 2, (Option.none : Option Jvm.ClassFile.FieldType), false)
def pm_q145 : ma_M := (⟨"LetHorizon$Works", "<init>", "(LLetHorizon$Told;LLetHorizon$Asker;LLetHorizon$Book;)V"⟩, prog_12_method_1_code, 4, (Option.none : Option Jvm.ClassFile.FieldType), false)
def pm_q146 : ma_M := (⟨"LetHorizon$Works", "setColumn", "(LLetHorizon$Line;II)I"⟩, prog_12_method_4_code, 5, (Option.some FieldType.int), false)
def pm_q147 : ma_M := (⟨"LetHorizon$Works", "note", "(LLetHorizon$Line;III)V"⟩, prog_12_method_3_code, 5, (Option.none : Option Jvm.ClassFile.FieldType), false)
def pm_q148 : ma_M := (⟨"LetHorizon$Works", "moveAll", "(LLetHorizon$Line;I)I"⟩, prog_12_method_5_code, 5, (Option.some FieldType.int), false)
def pm_q149 : ma_M := (⟨"LetHorizon$Works", "mendColumn", "(LLetHorizon$Line;I)I"⟩, prog_12_method_6_code, 4, (Option.some FieldType.int), false)
def pm_q150 : ma_M := (⟨"LetHorizon$Works", "beginCounts", "()V"⟩, prog_12_method_2_code, 1, (Option.none : Option Jvm.ClassFile.FieldType), false)
def pm_q151 : ma_M := (⟨"LetHorizon$Works", "passHour", "(LLetHorizon$Line;)V"⟩, prog_12_method_7_code, 3, (Option.none : Option Jvm.ClassFile.FieldType), false)
def pm_q152 : ma_M := (⟨"LetHorizon$Works", "doTask", "(LLetHorizon$Line;I)V"⟩, prog_12_method_8_code, 5, (Option.none : Option Jvm.ClassFile.FieldType), false)
def pm_q153 : ma_M := (⟨"LetHorizon$Works", "slideShips", "(LLetHorizon$Line;)V"⟩, prog_12_method_9_code, 5, (Option.none : Option Jvm.ClassFile.FieldType), false)
def pm_q154 : ma_M := (⟨"LetHorizon$Works", "lowerBeside", "(LLetHorizon$Line;I)I"⟩, prog_12_method_10_code, 3, (Option.some FieldType.int), false)
def pm_q155 : ma_M := (⟨"LetHorizon$Works", "scrapeShips", "(LLetHorizon$Line;)V"⟩, prog_12_method_11_code, 4, (Option.none : Option Jvm.ClassFile.FieldType), false)
def pm_q156 : ma_M := (⟨"LetHorizon$Works", "payWants", "(LLetHorizon$Line;)V"⟩, prog_12_method_12_code, 4, (Option.none : Option Jvm.ClassFile.FieldType), false)
def pm_q157 : ma_M := (⟨"LetHorizon$Works", "wearColumns", "(LLetHorizon$Line;)V"⟩, prog_12_method_13_code, 3, (Option.none : Option Jvm.ClassFile.FieldType), false)
def pm_q158 : ma_M := (⟨"LetHorizon$Works", "breakColumn", "(LLetHorizon$Line;I)V"⟩, prog_12_method_14_code, 4, (Option.none : Option Jvm.ClassFile.FieldType), false)
def pm_q159 : ma_M := (⟨"LetHorizon$Works", "drawGust", "(LLetHorizon$Line;)V"⟩, prog_12_method_15_code, 3, (Option.none : Option Jvm.ClassFile.FieldType), false)
def pm_q160 : ma_M := (⟨"LetHorizonModel", "<init>", "()V"⟩, prog_14_method_1_code, 1, (Option.none : Option Jvm.ClassFile.FieldType), false)
def pm_q161 : ma_M := (⟨"LetHorizonModel", "undo", "()Z"⟩, prog_14_method_11_code, 2, (Option.some FieldType.boolean), false)
def pm_q162 : ma_M := (⟨"LetHorizonModel", "state", "(I)I"⟩, prog_14_method_14_code, 3, (Option.some FieldType.int), false)
def pm_q163 : ma_M := (⟨"LetHorizonModel", "sea", "(I)Z"⟩, prog_14_method_23_code, 3, (Option.some FieldType.boolean), false)
def pm_q164 : ma_M := (⟨"LetHorizonModel", "isIn", "(III)Z"⟩, prog_14_method_3_code, 4, (Option.some FieldType.boolean), false)
def pm_q165 : ma_M := (⟨"LetHorizonModel", "ship", "(II)I"⟩, prog_14_method_24_code, 3, (Option.some FieldType.int), false)
def pm_q166 : ma_M := (⟨"LetHorizonModel", "isColumn", "(I)Z"⟩, prog_14_method_20_code, 2, (Option.some FieldType.boolean), false)
def pm_q167 : ma_M := (⟨"LetHorizonModel", "wide", "()I"⟩, prog_14_method_16_code, 1, (Option.some FieldType.int), false)
def pm_q168 : ma_M := (⟨"LetHorizonModel", "pier", "(II)I"⟩, prog_14_method_25_code, 3, (Option.some FieldType.int), false)
def pm_q169 : ma_M := (⟨"LetHorizonModel", "set", "(III)Z"⟩, prog_14_method_27_code, 4, (Option.some FieldType.boolean), false)
def pm_q170 : ma_M := (⟨"LetHorizonModel", "canSet", "(III)Z"⟩, prog_14_method_26_code, 4, (Option.some FieldType.boolean), false)
def pm_q171 : ma_M := (⟨"LetHorizonModel", "isShip", "(I)Z"⟩, prog_14_method_21_code, 2, (Option.some FieldType.boolean), false)
def pm_q172 : ma_M := (⟨"LetHorizonModel", "isPier", "(I)Z"⟩, prog_14_method_22_code, 2, (Option.some FieldType.boolean), false)
def pm_q173 : ma_M := (⟨"LetHorizonModel", "feed", "(IIIII)I"⟩, prog_14_method_29_code, 6, (Option.some FieldType.int), false)
def pm_q174 : ma_M := (⟨"LetHorizonModel", "types", "(I)V"⟩, prog_14_method_28_code, 3, (Option.none : Option Jvm.ClassFile.FieldType), false)
def pm_q175 : ma_M := (⟨"LetHorizonModel", "end", "(I)Z"⟩, prog_14_method_30_code, 2, (Option.some FieldType.boolean), false)
def pm_q176 : ma_M := (⟨"LetHorizonModel", "text", "(I)I"⟩, prog_14_method_61_code, 3, (Option.some FieldType.int), false)
def pm_q177 : ma_M := (⟨"LetHorizonModel", "readsText", "(I)I"⟩, prog_14_method_59_code, 2, (Option.some FieldType.int), false)
def pm_q178 : ma_M := (⟨"LetHorizonModel", "reads", "()V"⟩, prog_14_method_36_code, 2, (Option.none : Option Jvm.ClassFile.FieldType), false)
def pm_q179 : ma_M := (⟨"LetHorizonModel", "raw", "(I)I"⟩, prog_14_method_31_code, 2, (Option.some FieldType.int), false)
def pm_q180 : ma_M := (⟨"LetHorizonModel", "isLetter", "(I)Z"⟩, prog_14_method_32_code, 2, (Option.some FieldType.boolean), false)
def pm_q181 : ma_M := (⟨"LetHorizonModel", "wordAt", "(II)I"⟩, prog_14_method_35_code, 6, (Option.some FieldType.int), false)
def pm_q182 : ma_M := (⟨"LetHorizonModel", "isDigit", "(I)Z"⟩, prog_14_method_33_code, 2, (Option.some FieldType.boolean), false)
def pm_q183 : ma_M := (⟨"LetHorizonModel", "isMarkSign", "(I)Z"⟩, prog_14_method_34_code, 2, (Option.some FieldType.boolean), false)
def pm_q184 : ma_M := (⟨"LetHorizonModel", "readRoster", "()I"⟩, prog_14_method_56_code, 2, (Option.some FieldType.int), false)
def pm_q185 : ma_M := (⟨"LetHorizonModel", "isWord", "(I)Z"⟩, prog_14_method_38_code, 2, (Option.some FieldType.boolean), false)
def pm_q186 : ma_M := (⟨"LetHorizonModel", "errs", "(I)I"⟩, prog_14_method_37_code, 2, (Option.some FieldType.int), false)
def pm_q187 : ma_M := (⟨"LetHorizonModel", "readRosterLine", "(I)I"⟩, prog_14_method_55_code, 4, (Option.some FieldType.int), false)
def pm_q188 : ma_M := (⟨"LetHorizonModel", "readTold", "(III)I"⟩, prog_14_method_54_code, 4, (Option.some FieldType.int), false)
def pm_q189 : ma_M := (⟨"LetHorizonModel", "readNumber", "(II)I"⟩, prog_14_method_52_code, 4, (Option.some FieldType.int), false)
def pm_q190 : ma_M := (⟨"LetHorizonModel", "readMark", "(I)I"⟩, prog_14_method_53_code, 2, (Option.some FieldType.int), false)
def pm_q191 : ma_M := (⟨"LetHorizonModel", "isSign", "(I)Z"⟩, prog_14_method_39_code, 2, (Option.some FieldType.boolean), false)
def pm_q192 : ma_M := (⟨"LetHorizonModel", "readWants", "()I"⟩, prog_14_method_58_code, 2, (Option.some FieldType.int), false)
def pm_q193 : ma_M := (⟨"LetHorizonModel", "readWant", "(I)I"⟩, prog_14_method_57_code, 2, (Option.some FieldType.int), false)
def pm_q194 : ma_M := (⟨"LetHorizonModel", "readLaw", "()I"⟩, prog_14_method_50_code, 3, (Option.some FieldType.int), false)
def pm_q195 : ma_M := (⟨"LetHorizonModel", "isLineWord", "()Z"⟩, prog_14_method_49_code, 1, (Option.some FieldType.boolean), false)
def pm_q196 : ma_M := (⟨"LetHorizonModel", "readSum", "()I"⟩, prog_14_method_44_code, 2, (Option.some FieldType.int), false)
def pm_q197 : ma_M := (⟨"LetHorizonModel", "readProduct", "()I"⟩, prog_14_method_43_code, 2, (Option.some FieldType.int), false)
def pm_q198 : ma_M := (⟨"LetHorizonModel", "readUnit", "()I"⟩, prog_14_method_42_code, 2, (Option.some FieldType.int), false)
def pm_q199 : ma_M := (⟨"LetHorizonModel", "canAsk", "(I)Z"⟩, prog_14_method_41_code, 2, (Option.some FieldType.boolean), false)
def pm_q200 : ma_M := (⟨"LetHorizonModel", "emits", "(II)V"⟩, prog_14_method_40_code, 3, (Option.none : Option Jvm.ClassFile.FieldType), false)
def pm_q201 : ma_M := (⟨"LetHorizonModel", "readAny", "()I"⟩, prog_14_method_48_code, 4, (Option.some FieldType.int), false)
def pm_q202 : ma_M := (⟨"LetHorizonModel", "waits", "(I)V"⟩, prog_14_method_46_code, 2, (Option.none : Option Jvm.ClassFile.FieldType), false)
def pm_q203 : ma_M := (⟨"LetHorizonModel", "readCompared", "()I"⟩, prog_14_method_45_code, 2, (Option.some FieldType.int), false)
def pm_q204 : ma_M := (⟨"LetHorizonModel", "settles", "(I)V"⟩, prog_14_method_47_code, 2, (Option.none : Option Jvm.ClassFile.FieldType), false)
def pm_q205 : ma_M := (⟨"LetHorizonModel", "takesLaw", "(I)V"⟩, prog_14_method_51_code, 3, (Option.none : Option Jvm.ClassFile.FieldType), false)
def pm_q206 : ma_M := (⟨"LetHorizonModel", "takesOther", "(II)V"⟩, prog_14_method_60_code, 4, (Option.none : Option Jvm.ClassFile.FieldType), false)
def pm_q207 : ma_M := (⟨"LetHorizonModel", "fault", "(I)I"⟩, prog_14_method_62_code, 2, (Option.some FieldType.int), false)
def pm_q208 : ma_M := (⟨"LetHorizonModel", "raise", "(II)I"⟩, prog_14_method_78_code, 3, (Option.some FieldType.int), false)
def pm_q209 : ma_M := (⟨"LetHorizonModel", "keepsAhead", "()V"⟩, prog_14_method_10_code, 2, (Option.none : Option Jvm.ClassFile.FieldType), false)
def pm_q210 : ma_M := (⟨"LetHorizonModel", "sets", "(II)I"⟩, prog_14_method_75_code, 4, (Option.some FieldType.int), false)
def pm_q211 : ma_M := (⟨"LetHorizonModel", "costOf", "(II)I"⟩, prog_14_method_71_code, 3, (Option.some FieldType.int), false)
def pm_q212 : ma_M := (⟨"LetHorizonModel", "heightOf", "(I)I"⟩, prog_14_method_18_code, 2, (Option.some FieldType.int), false)
def pm_q213 : ma_M := (⟨"LetHorizonModel", "greater", "(II)I"⟩, prog_14_method_5_code, 3, (Option.some FieldType.int), false)
def pm_q214 : ma_M := (⟨"LetHorizonModel", "asks", "(III)V"⟩, prog_14_method_67_code, 4, (Option.none : Option Jvm.ClassFile.FieldType), false)
def pm_q215 : ma_M := (⟨"LetHorizonModel", "leansOf", "(I)I"⟩, prog_14_method_66_code, 4, (Option.some FieldType.int), false)
def pm_q216 : ma_M := (⟨"LetHorizonModel", "far", "(II)I"⟩, prog_14_method_7_code, 3, (Option.some FieldType.int), false)
def pm_q217 : ma_M := (⟨"LetHorizonModel", "lawTells", "(III)I"⟩, prog_14_method_68_code, 5, (Option.some FieldType.int), false)
def pm_q218 : ma_M := (⟨"LetHorizonModel", "lineOf", "(I)I"⟩, prog_14_method_65_code, 3, (Option.some FieldType.int), false)
def pm_q219 : ma_M := (⟨"LetHorizonModel", "runs", "(III)I"⟩, prog_14_method_64_code, 6, (Option.some FieldType.int), false)
def pm_q220 : ma_M := (⟨"LetHorizonModel", "twoOf", "(III)I"⟩, prog_14_method_63_code, 4, (Option.some FieldType.int), false)
def pm_q221 : ma_M := (⟨"LetHorizonModel", "held", "(III)I"⟩, prog_14_method_4_code, 4, (Option.some FieldType.int), false)
def pm_q222 : ma_M := (⟨"LetHorizonModel", "lesser", "(II)I"⟩, prog_14_method_6_code, 3, (Option.some FieldType.int), false)
def pm_q223 : ma_M := (⟨"LetHorizonModel", "heightBe", "(II)V"⟩, prog_14_method_19_code, 3, (Option.none : Option Jvm.ClassFile.FieldType), false)
def pm_q224 : ma_M := (⟨"LetHorizonModel", "notes", "(III)V"⟩, prog_14_method_74_code, 5, (Option.none : Option Jvm.ClassFile.FieldType), false)
def pm_q225 : ma_M := (⟨"LetHorizonModel", "lift", "(I)I"⟩, prog_14_method_79_code, 2, (Option.some FieldType.int), false)
def pm_q226 : ma_M := (⟨"LetHorizonModel", "lifts", "(I)I"⟩, prog_14_method_76_code, 4, (Option.some FieldType.int), false)
def pm_q227 : ma_M := (⟨"LetHorizonModel", "mend", "(I)I"⟩, prog_14_method_80_code, 2, (Option.some FieldType.int), false)
def pm_q228 : ma_M := (⟨"LetHorizonModel", "mends", "(I)I"⟩, prog_14_method_77_code, 3, (Option.some FieldType.int), false)
def pm_q229 : ma_M := (⟨"LetHorizonModel", "hours", "(I)I"⟩, prog_14_method_90_code, 4, (Option.some FieldType.int), false)
def pm_q230 : ma_M := (⟨"LetHorizonModel", "goesBy", "()I"⟩, prog_14_method_89_code, 3, (Option.some FieldType.int), false)
def pm_q231 : ma_M := (⟨"LetHorizonModel", "does", "(I)V"⟩, prog_14_method_81_code, 3, (Option.none : Option Jvm.ClassFile.FieldType), false)
def pm_q232 : ma_M := (⟨"LetHorizonModel", "slides", "(I)V"⟩, prog_14_method_83_code, 4, (Option.none : Option Jvm.ClassFile.FieldType), false)
def pm_q233 : ma_M := (⟨"LetHorizonModel", "lowerBeside", "(I)I"⟩, prog_14_method_82_code, 2, (Option.some FieldType.int), false)
def pm_q234 : ma_M := (⟨"LetHorizonModel", "slideOf", "(I)I"⟩, prog_14_method_70_code, 2, (Option.some FieldType.int), false)
def pm_q235 : ma_M := (⟨"LetHorizonModel", "scrapes", "(I)V"⟩, prog_14_method_84_code, 3, (Option.none : Option Jvm.ClassFile.FieldType), false)
def pm_q236 : ma_M := (⟨"LetHorizonModel", "pays", "()I"⟩, prog_14_method_86_code, 4, (Option.some FieldType.int), false)
def pm_q237 : ma_M := (⟨"LetHorizonModel", "isWantedAt", "(II)Z"⟩, prog_14_method_85_code, 3, (Option.some FieldType.boolean), false)
def pm_q238 : ma_M := (⟨"LetHorizonModel", "wears", "(I)V"⟩, prog_14_method_87_code, 2, (Option.none : Option Jvm.ClassFile.FieldType), false)
def pm_q239 : ma_M := (⟨"LetHorizonModel", "wearOf", "(I)I"⟩, prog_14_method_69_code, 2, (Option.some FieldType.int), false)
def pm_q240 : ma_M := (⟨"LetHorizonModel", "blows", "()V"⟩, prog_14_method_88_code, 2, (Option.none : Option Jvm.ClassFile.FieldType), false)
def pm_q241 : ma_M := (⟨"LetHorizonModel", "draw", "(I)I"⟩, prog_14_method_15_code, 2, (Option.some FieldType.int), false)
def pm_q242 : ma_M := (⟨"LetHorizonModel", "of", "(II)I"⟩, prog_14_method_91_code, 3, (Option.some FieldType.int), false)
def pm_q243 : ma_M := (⟨"LetHorizonModel", "duskOf", "(I)I"⟩, prog_14_method_73_code, 3, (Option.some FieldType.int), false)
def pm_q244 : ma_M := (⟨"LetHorizonModel", "sunOver", "(II)I"⟩, prog_14_method_72_code, 3, (Option.some FieldType.int), false)
def pm_q245 : ma_M := (⟨"LetHorizonModel", "sun", "(II)I"⟩, prog_14_method_92_code, 3, (Option.some FieldType.int), false)
def pm_q246 : ma_M := (⟨"LetHorizonModel", "costs", "(II)I"⟩, prog_14_method_93_code, 3, (Option.some FieldType.int), false)
def pm_q247 : ma_M := (⟨"LetHorizonModel", "shipOf", "(II)I"⟩, prog_14_method_94_code, 3, (Option.some FieldType.int), false)
def pm_q248 : ma_M := (⟨"LetHorizonModel", "pierOf", "(II)I"⟩, prog_14_method_97_code, 3, (Option.some FieldType.int), false)
def pm_q249 : ma_M := (⟨"LetHorizonModel", "seenFrom", "(I)I"⟩, prog_14_method_96_code, 4, (Option.some FieldType.int), false)
def pm_q250 : ma_M := (⟨"LetHorizonModel", "doesSee", "(II)Z"⟩, prog_14_method_95_code, 5, (Option.some FieldType.boolean), false)
def pm_q251 : ma_M := (⟨"LetHorizonModel", "book", "(II)I"⟩, prog_14_method_98_code, 3, (Option.some FieldType.int), false)
def pm_q252 : ma_M := (⟨"LetHorizonModel", "goes", "(II)I"⟩, prog_14_method_99_code, 5, (Option.some FieldType.int), false)
def pm_q253 : ma_M := (⟨"LetHorizonModel", "thinks", "()V"⟩, prog_14_method_12_code, 2, (Option.none : Option Jvm.ClassFile.FieldType), false)
def pm_q254 : ma_M := (⟨"LetHorizonModel", "endsThought", "()V"⟩, prog_14_method_13_code, 2, (Option.none : Option Jvm.ClassFile.FieldType), false)
def pm_q255 : ma_M := (⟨"LetHorizonModel", "meets", "(II)I"⟩, prog_14_method_103_code, 6, (Option.some FieldType.int), false)
def pm_q256 : ma_M := (⟨"LetHorizonModel", "has", "(II)Z"⟩, prog_14_method_9_code, 3, (Option.some FieldType.boolean), false)
def pm_q257 : ma_M := (⟨"LetHorizonModel", "canMeet", "(II)Z"⟩, prog_14_method_100_code, 4, (Option.some FieldType.boolean), false)
def pm_q258 : ma_M := (⟨"LetHorizonModel", "steep", "()I"⟩, prog_14_method_17_code, 1, (Option.some FieldType.int), false)
def pm_q259 : ma_M := (⟨"LetHorizonModel", "paidBy", "(I)I"⟩, prog_14_method_102_code, 4, (Option.some FieldType.int), false)
def pm_q260 : ma_M := (⟨"LetHorizonModel", "canAllMeet", "(I)Z"⟩, prog_14_method_101_code, 4, (Option.some FieldType.boolean), false)
def pm_q261 : ma_M := (⟨"LetHorizonModel", "smooth", "(I)I"⟩, prog_14_method_106_code, 6, (Option.some FieldType.int), false)
def pm_q262 : ma_M := (⟨"LetHorizonModel", "findsSmooth", "()V"⟩, prog_14_method_105_code, 3, (Option.none : Option Jvm.ClassFile.FieldType), false)
def pm_q263 : ma_M := (⟨"LetHorizonModel", "leastNear", "(II)I"⟩, prog_14_method_104_code, 5, (Option.some FieldType.int), false)
def pm_q264 : ma_M := (⟨"LetHorizonModel", "folds", "()I"⟩, prog_14_method_108_code, 3, (Option.some FieldType.int), false)
def pm_q265 : ma_M := (⟨"LetHorizonModel", "isLowBy", "(II)Z"⟩, prog_14_method_107_code, 3, (Option.some FieldType.boolean), false)
def pm_q266 : ma_M := (⟨"LetHorizonModel", "sunset", "(II)I"⟩, prog_14_method_109_code, 3, (Option.some FieldType.int), false)
def pm_q267 : ma_M := (⟨"LetHorizonModel", "lifted", "(I)I"⟩, prog_14_method_115_code, 3, (Option.some FieldType.int), false)
def pm_q268 : ma_M := (⟨"LetHorizonModel", "findsFitting", "()V"⟩, prog_14_method_112_code, 2, (Option.none : Option Jvm.ClassFile.FieldType), false)
def pm_q269 : ma_M := (⟨"LetHorizonModel", "liftsThought", "(I)V"⟩, prog_14_method_110_code, 3, (Option.none : Option Jvm.ClassFile.FieldType), false)
def pm_q270 : ma_M := (⟨"LetHorizonModel", "fitsLifted", "()Z"⟩, prog_14_method_111_code, 2, (Option.some FieldType.boolean), false)
def pm_q271 : ma_M := (⟨"LetHorizonModel", "bestLook", "()I"⟩, prog_14_method_114_code, 5, (Option.some FieldType.int), false)
def pm_q272 : ma_M := (⟨"LetHorizonModel", "mostAlike", "(I)I"⟩, prog_14_method_113_code, 6, (Option.some FieldType.int), false)
def pm_q273 : ma_M := (⟨"LetHorizonModel", "over", "(I)I"⟩, prog_14_method_116_code, 4, (Option.some FieldType.int), false)
def pm_q274 : ma_M := (⟨"LetHorizonModel", "watch", "(I)I"⟩, prog_14_method_117_code, 6, (Option.some FieldType.int), false)
def pm_q275 : ma_M := (⟨"LetHorizonModel", "onesOf", "(I)I"⟩, prog_14_method_8_code, 4, (Option.some FieldType.int), false)
def pm_q276 : ma_M := (⟨"LetHorizonModel", "coils", "(II)I"⟩, prog_14_method_119_code, 4, (Option.some FieldType.int), false)
def pm_q277 : ma_M := (⟨"LetHorizonModel", "findsCoils", "(I)I"⟩, prog_14_method_118_code, 6, (Option.some FieldType.int), false)
def pm_q278 : ma_M := (⟨"LetHorizonModel", "moors", "(I)I"⟩, prog_14_method_123_code, 5, (Option.some FieldType.int), false)
def pm_q279 : ma_M := (⟨"LetHorizonModel", "findsMoored", "()V"⟩, prog_14_method_122_code, 5, (Option.none : Option Jvm.ClassFile.FieldType), false)
def pm_q280 : ma_M := (⟨"LetHorizonModel", "canMoor", "(III)Z"⟩, prog_14_method_120_code, 4, (Option.some FieldType.boolean), false)
def pm_q281 : ma_M := (⟨"LetHorizonModel", "mooredBy", "(III)I"⟩, prog_14_method_121_code, 4, (Option.some FieldType.int), false)
def pm_q282 : ma_M := (⟨"LetHorizonModel", "fee", "(II)I"⟩, prog_14_method_124_code, 3, (Option.some FieldType.int), false)
def pm_q283 : ma_M := (⟨"LetHorizonModel", "part", "(II)I"⟩, prog_14_method_126_code, 9, (Option.some FieldType.int), false)
def pm_q284 : ma_M := (⟨"LetHorizonModel", "weightOf", "(I)I"⟩, prog_14_method_125_code, 3, (Option.some FieldType.int), false)
def pm_q285 : ma_M := (⟨"LetHorizonModel", "game", "(I)I"⟩, prog_14_method_127_code, 6, (Option.some FieldType.int), false)
def pm_q286 : ma_M := (⟨"LetHorizonModel", "image", "(Z)Z"⟩, prog_14_method_131_code, 3, (Option.some FieldType.boolean), false)
def pm_q287 : ma_M := (⟨"LetHorizonModel", "keeps", "(I)I"⟩, prog_14_method_128_code, 2, (Option.some FieldType.int), false)
def pm_q288 : ma_M := (⟨"LetHorizonModel", "keepsTold", "()V"⟩, prog_14_method_130_code, 2, (Option.none : Option Jvm.ClassFile.FieldType), false)
def pm_q289 : ma_M := (⟨"LetHorizonModel", "keepsLaw", "()V"⟩, prog_14_method_129_code, 2, (Option.none : Option Jvm.ClassFile.FieldType), false)
def pm_q290 : ma_M := (⟨"LetHorizonModel", "look", "(I)I"⟩, prog_14_method_132_code, 2, (Option.some FieldType.int), false)
def pm_q291 : ma_M := (⟨"java/lang/Math", "min", "(II)I"⟩, prog_17_method_69_code, 2, (Option.some FieldType.int), true)
def pm_q292 : ma_M := (⟨"java/lang/Math", "max", "(II)I"⟩, prog_17_method_65_code, 2, (Option.some FieldType.int), true)
def pm_q293 : ma_M := (⟨"java/lang/Math", "abs", "(I)I"⟩, prog_17_method_59_code, 1, (Option.some FieldType.int), true)
def pm_q294 : ma_M := (⟨"java/lang/Integer", "bitCount", "(I)I"⟩, prog_16_method_49_code, 1, (Option.some FieldType.int), true)
def pm_q295 : ma_M := (⟨"java/lang/Math", "min", "(JJ)J"⟩, prog_17_method_70_code, 4, (Option.some FieldType.long), true)
def pm_q296 : ma_M := (⟨"LetHorizonLaw", "law", "([I)Z"⟩, code, 4, (Option.some FieldType.boolean), true)
def pm_mt : List ma_M := [pm_q0, pm_q1, pm_q2, pm_q3, pm_q4, pm_q5, pm_q6, pm_q7, pm_q8, pm_q9, pm_q10, pm_q11, pm_q12, pm_q13, pm_q14, pm_q15, pm_q16, pm_q17, pm_q18, pm_q19, pm_q20, pm_q21, pm_q22, pm_q23, pm_q24, pm_q25, pm_q26, pm_q27, pm_q28, pm_q29, pm_q30, pm_q31, pm_q32, pm_q33, pm_q34, pm_q35, pm_q36, pm_q37, pm_q38, pm_q39, pm_q40, pm_q41, pm_q42, pm_q43, pm_q44, pm_q45, pm_q46, pm_q47, pm_q48, pm_q49, pm_q50, pm_q51, pm_q52, pm_q53, pm_q54, pm_q55, pm_q56, pm_q57, pm_q58, pm_q59, pm_q60, pm_q61, pm_q62, pm_q63, pm_q64, pm_q65, pm_q66, pm_q67, pm_q68, pm_q69, pm_q70, pm_q71, pm_q72, pm_q73, pm_q74, pm_q75, pm_q76, pm_q77, pm_q78, pm_q79, pm_q80, pm_q81, pm_q82, pm_q83, pm_q84, pm_q85, pm_q86, pm_q87, pm_q88, pm_q89, pm_q90, pm_q91, pm_q92, pm_q93, pm_q94, pm_q95, pm_q96, pm_q97, pm_q98, pm_q99, pm_q100, pm_q101, pm_q102, pm_q103, pm_q104, pm_q105, pm_q106, pm_q107, pm_q108, pm_q109, pm_q110, pm_q111, pm_q112, pm_q113, pm_q114, pm_q115, pm_q116, pm_q117, pm_q118, pm_q119, pm_q120, pm_q121, pm_q122, pm_q123, pm_q124, pm_q125, pm_q126, pm_q127, pm_q128, pm_q129, pm_q130, pm_q131, pm_q132, pm_q133, pm_q134, pm_q135, pm_q136, pm_q137, pm_q138, pm_q139, pm_q140, pm_q141, pm_q142, pm_q143, pm_q144, pm_q145, pm_q146, pm_q147, pm_q148, pm_q149, pm_q150, pm_q151, pm_q152, pm_q153, pm_q154, pm_q155, pm_q156, pm_q157, pm_q158, pm_q159, pm_q160, pm_q161, pm_q162, pm_q163, pm_q164, pm_q165, pm_q166, pm_q167, pm_q168, pm_q169, pm_q170, pm_q171, pm_q172, pm_q173, pm_q174, pm_q175, pm_q176, pm_q177, pm_q178, pm_q179, pm_q180, pm_q181, pm_q182, pm_q183, pm_q184, pm_q185, pm_q186, pm_q187, pm_q188, pm_q189, pm_q190, pm_q191, pm_q192, pm_q193, pm_q194, pm_q195, pm_q196, pm_q197, pm_q198, pm_q199, pm_q200, pm_q201, pm_q202, pm_q203, pm_q204, pm_q205, pm_q206, pm_q207, pm_q208, pm_q209, pm_q210, pm_q211, pm_q212, pm_q213, pm_q214, pm_q215, pm_q216, pm_q217, pm_q218, pm_q219, pm_q220, pm_q221, pm_q222, pm_q223, pm_q224, pm_q225, pm_q226, pm_q227, pm_q228, pm_q229, pm_q230, pm_q231, pm_q232, pm_q233, pm_q234, pm_q235, pm_q236, pm_q237, pm_q238, pm_q239, pm_q240, pm_q241, pm_q242, pm_q243, pm_q244, pm_q245, pm_q246, pm_q247, pm_q248, pm_q249, pm_q250, pm_q251, pm_q252, pm_q253, pm_q254, pm_q255, pm_q256, pm_q257, pm_q258, pm_q259, pm_q260, pm_q261, pm_q262, pm_q263, pm_q264, pm_q265, pm_q266, pm_q267, pm_q268, pm_q269, pm_q270, pm_q271, pm_q272, pm_q273, pm_q274, pm_q275, pm_q276, pm_q277, pm_q278, pm_q279, pm_q280, pm_q281, pm_q282, pm_q283, pm_q284, pm_q285, pm_q286, pm_q287, pm_q288, pm_q289, pm_q290, pm_q291, pm_q292, pm_q293, pm_q294, pm_q295, pm_q296]
def pm_m (m : Nat) : Option ma_M := pm_mt[m]?
def pm_k (c : Nat) : List Nat := (pm_ks[c]?).getD []
/-- the words that the walk uses -/
def pm_nw (w : Jvm.Cond) : Bool := match w with
  | .fieldLinkNest .. => true
  | .methodLinkNest .. => true
  | .arrayOver _ => true
  | _ => false
def pm_u (w : Jvm.Cond) : Bool := ma_gw w || pm_nw w
def pm_G : List Jvm.Cond := lw_tbl.filter pm_u
theorem gt {w : Jvm.Cond} (i : Nat) (h : tables_1[i]? = some w ∧ pm_u w = true) : w ∈ pm_G := List.mem_filter.mpr ⟨List.mem_append_right _ (List.mem_of_getElem? h.1), h.2⟩
theorem gc1 {w : Jvm.Cond} (i : Nat) (h : tables_1_1[i]? = some w) (h2 : pm_u w = true) : w ∈ pm_G := List.mem_filter.mpr ⟨List.mem_append_right _ (List.mem_append_left _ (List.mem_of_getElem? h)), h2⟩
theorem gc2 {w : Jvm.Cond} (i : Nat) (h : tables_1_2[i]? = some w) (h2 : pm_u w = true) : w ∈ pm_G := List.mem_filter.mpr ⟨List.mem_append_right _ (List.mem_append_right _ (List.mem_append_left _ (List.mem_of_getElem? h))), h2⟩
theorem gc3 {w : Jvm.Cond} (i : Nat) (h : tables_1_3[i]? = some w) (h2 : pm_u w = true) : w ∈ pm_G := List.mem_filter.mpr ⟨List.mem_append_right _ (List.mem_append_right _ (List.mem_append_right _ (List.mem_append_left _ (List.mem_of_getElem? h)))), h2⟩
theorem gc4 {w : Jvm.Cond} (i : Nat) (h : tables_1_4[i]? = some w) (h2 : pm_u w = true) : w ∈ pm_G := List.mem_filter.mpr ⟨List.mem_append_right _ (List.mem_append_right _ (List.mem_append_right _ (List.mem_append_right _ (List.mem_append_left _ (List.mem_of_getElem? h))))), h2⟩
theorem gc5 {w : Jvm.Cond} (i : Nat) (h : tables_1_5[i]? = some w) (h2 : pm_u w = true) : w ∈ pm_G := List.mem_filter.mpr ⟨List.mem_append_right _ (List.mem_append_right _ (List.mem_append_right _ (List.mem_append_right _ (List.mem_append_right _ (List.mem_append_left _ (List.mem_of_getElem? h)))))), h2⟩
theorem gc6 {w : Jvm.Cond} (i : Nat) (h : tables_1_6[i]? = some w) (h2 : pm_u w = true) : w ∈ pm_G := List.mem_filter.mpr ⟨List.mem_append_right _ (List.mem_append_right _ (List.mem_append_right _ (List.mem_append_right _ (List.mem_append_right _ (List.mem_append_right _ (List.mem_append_left _ (List.mem_of_getElem? h))))))), h2⟩
theorem gc7 {w : Jvm.Cond} (i : Nat) (h : tables_1_7[i]? = some w) (h2 : pm_u w = true) : w ∈ pm_G := List.mem_filter.mpr ⟨List.mem_append_right _ (List.mem_append_right _ (List.mem_append_right _ (List.mem_append_right _ (List.mem_append_right _ (List.mem_append_right _ (List.mem_append_right _ (List.mem_append_left _ (List.mem_of_getElem? h)))))))), h2⟩
theorem gc8 {w : Jvm.Cond} (i : Nat) (h : tables_1_8[i]? = some w) (h2 : pm_u w = true) : w ∈ pm_G := List.mem_filter.mpr ⟨List.mem_append_right _ (List.mem_append_right _ (List.mem_append_right _ (List.mem_append_right _ (List.mem_append_right _ (List.mem_append_right _ (List.mem_append_right _ (List.mem_append_right _ (List.mem_of_getElem? h)))))))), h2⟩
theorem gs {y : MethodName} {n : Nat} (i : Nat) (h : lw_privs[i]? = some (y, n)) : Jvm.Cond.selects y.cls y y ∈ pm_G := List.mem_filter.mpr ⟨List.mem_append_left _ (List.mem_map.mpr ⟨(y, n), List.mem_of_getElem? h, rfl⟩), rfl⟩
def pm_tk : List (String × Instr × List Nat) := [("LetHorizon$Tokens", .invokevirtual 68, [5, 1]), ("LetHorizon$Tokens", .invokevirtual 75, [3, 0]), ("LetHorizon$Tokens", .invokevirtual 78, [4, 0]), ("LetHorizon$Tokens", .ldc 66, [1, 1]), ("LetHorizon$Tokens", .ldc 73, [1, 0])]
def pm_TK (own : String) (i : Instr) (o : List Nat) : Prop := (own, i, o) ∈ pm_tk
theorem pm_w0 : ∀ w ∈ u_ws "LetHorizon" pm_T0 15, w ∈ pm_G := by
  intro w hw
  obtain ⟨k, hk, rfl⟩ := List.mem_map.mp hw
  have hk := List.mem_range.mp hk
  match k, hk with
  | 0, _ => exact gt 430 (by decide +kernel)
  | 1, _ => exact gt 432 (by decide +kernel)
  | 2, _ => exact gt 434 (by decide +kernel)
  | 3, _ => exact gt 436 (by decide +kernel)
  | 4, _ => exact gt 438 (by decide +kernel)
  | 5, _ => exact gt 440 (by decide +kernel)
  | 6, _ => exact gt 442 (by decide +kernel)
  | 7, _ => exact gt 444 (by decide +kernel)
  | 8, _ => exact gt 446 (by decide +kernel)
  | 9, _ => exact gt 448 (by decide +kernel)
  | 10, _ => exact gt 450 (by decide +kernel)
  | 11, _ => exact gt 452 (by decide +kernel)
  | 12, _ => exact gt 454 (by decide +kernel)
  | 13, _ => exact gt 456 (by decide +kernel)
  | 14, _ => exact gt 458 (by decide +kernel)
  | k + 15, hk => exact absurd hk (by omega)
theorem pm_n0 : ∀ a, a < 15 → ∀ b, b < 15 → a ≠ b → (pm_T0 a).2.1 ≠ (pm_T0 b).2.1 := by decide +kernel
theorem pm_y0 : ∀ k, k < 15 → (pm_T0 k).1 = "LetHorizon" ∧ ∃ ty, parseFieldDescriptor (pm_T0 k).2.2.1 = some ty ∧ ∃ t, (pm_k 0)[k]? = some t ∧ ma_kt t ty = true := by
  intro k hk
  match k, hk with
  | 0, _ => exact ⟨rfl, .object "LetHorizon$Told", by decide +kernel, 2, rfl, rfl⟩
  | 1, _ => exact ⟨rfl, .object "LetHorizon$Line", by decide +kernel, 2, rfl, rfl⟩
  | 2, _ => exact ⟨rfl, .object "LetHorizon$Book", by decide +kernel, 2, rfl, rfl⟩
  | 3, _ => exact ⟨rfl, .object "LetHorizon$Told", by decide +kernel, 2, rfl, rfl⟩
  | 4, _ => exact ⟨rfl, .object "LetHorizon$Line", by decide +kernel, 2, rfl, rfl⟩
  | 5, _ => exact ⟨rfl, .object "LetHorizon$Book", by decide +kernel, 2, rfl, rfl⟩
  | 6, _ => exact ⟨rfl, .boolean, by decide +kernel, 1, rfl, rfl⟩
  | 7, _ => exact ⟨rfl, .object "LetHorizon$Past", by decide +kernel, 2, rfl, rfl⟩
  | 8, _ => exact ⟨rfl, .object "LetHorizon$Tokens", by decide +kernel, 2, rfl, rfl⟩
  | 9, _ => exact ⟨rfl, .object "LetHorizon$Reader", by decide +kernel, 2, rfl, rfl⟩
  | 10, _ => exact ⟨rfl, .object "LetHorizon$Asker", by decide +kernel, 2, rfl, rfl⟩
  | 11, _ => exact ⟨rfl, .object "LetHorizon$Works", by decide +kernel, 2, rfl, rfl⟩
  | 12, _ => exact ⟨rfl, .object "LetHorizon$Line", by decide +kernel, 2, rfl, rfl⟩
  | 13, _ => exact ⟨rfl, .object "LetHorizon$Works", by decide +kernel, 2, rfl, rfl⟩
  | 14, _ => exact ⟨rfl, .object "LetHorizon$Thought", by decide +kernel, 2, rfl, rfl⟩
  | k + 15, hk => exact absurd hk (by omega)
theorem pm_w1 : ∀ w ∈ u_ws "LetHorizon$Asker" pm_T1 3, w ∈ pm_G := by
  intro w hw
  obtain ⟨k, hk, rfl⟩ := List.mem_map.mp hw
  have hk := List.mem_range.mp hk
  match k, hk with
  | 0, _ => exact gt 328 (by decide +kernel)
  | 1, _ => exact gt 330 (by decide +kernel)
  | 2, _ => exact gt 332 (by decide +kernel)
  | k + 3, hk => exact absurd hk (by omega)
theorem pm_n1 : ∀ a, a < 3 → ∀ b, b < 3 → a ≠ b → (pm_T1 a).2.1 ≠ (pm_T1 b).2.1 := by decide +kernel
theorem pm_y1 : ∀ k, k < 3 → (pm_T1 k).1 = "LetHorizon$Asker" ∧ ∃ ty, parseFieldDescriptor (pm_T1 k).2.2.1 = some ty ∧ ∃ t, (pm_k 1)[k]? = some t ∧ ma_kt t ty = true := by
  intro k hk
  match k, hk with
  | 0, _ => exact ⟨rfl, .object "LetHorizon$Told", by decide +kernel, 2, rfl, rfl⟩
  | 1, _ => exact ⟨rfl, .array (.int), by decide +kernel, 2, rfl, rfl⟩
  | 2, _ => exact ⟨rfl, .array (.int), by decide +kernel, 2, rfl, rfl⟩
  | k + 3, hk => exact absurd hk (by omega)
theorem pm_w2 : ∀ w ∈ u_ws "LetHorizon$Book" pm_T2 1, w ∈ pm_G := by
  intro w hw
  obtain ⟨k, hk, rfl⟩ := List.mem_map.mp hw
  have hk := List.mem_range.mp hk
  match k, hk with
  | 0, _ => exact gt 238 (by decide +kernel)
  | k + 1, hk => exact absurd hk (by omega)
theorem pm_n2 : ∀ a, a < 1 → ∀ b, b < 1 → a ≠ b → (pm_T2 a).2.1 ≠ (pm_T2 b).2.1 := by decide +kernel
theorem pm_y2 : ∀ k, k < 1 → (pm_T2 k).1 = "LetHorizon$Book" ∧ ∃ ty, parseFieldDescriptor (pm_T2 k).2.2.1 = some ty ∧ ∃ t, (pm_k 2)[k]? = some t ∧ ma_kt t ty = true := by
  intro k hk
  match k, hk with
  | 0, _ => exact ⟨rfl, .array (.int), by decide +kernel, 2, rfl, rfl⟩
  | k + 1, hk => exact absurd hk (by omega)
theorem pm_w3 : ∀ w ∈ u_ws "LetHorizon$Law" pm_T3 7, w ∈ pm_G := by
  intro w hw
  obtain ⟨k, hk, rfl⟩ := List.mem_map.mp hw
  have hk := List.mem_range.mp hk
  match k, hk with
  | 0, _ => exact gt 58 (by decide +kernel)
  | 1, _ => exact gt 60 (by decide +kernel)
  | 2, _ => exact gt 62 (by decide +kernel)
  | 3, _ => exact gt 64 (by decide +kernel)
  | 4, _ => exact gt 66 (by decide +kernel)
  | 5, _ => exact gt 68 (by decide +kernel)
  | 6, _ => exact gt 70 (by decide +kernel)
  | k + 7, hk => exact absurd hk (by omega)
theorem pm_n3 : ∀ a, a < 7 → ∀ b, b < 7 → a ≠ b → (pm_T3 a).2.1 ≠ (pm_T3 b).2.1 := by decide +kernel
theorem pm_y3 : ∀ k, k < 7 → (pm_T3 k).1 = "LetHorizon$Law" ∧ ∃ ty, parseFieldDescriptor (pm_T3 k).2.2.1 = some ty ∧ ∃ t, (pm_k 3)[k]? = some t ∧ ma_kt t ty = true := by
  intro k hk
  match k, hk with
  | 0, _ => exact ⟨rfl, .int, by decide +kernel, 0, rfl, rfl⟩
  | 1, _ => exact ⟨rfl, .int, by decide +kernel, 0, rfl, rfl⟩
  | 2, _ => exact ⟨rfl, .array (.int), by decide +kernel, 2, rfl, rfl⟩
  | 3, _ => exact ⟨rfl, .array (.int), by decide +kernel, 2, rfl, rfl⟩
  | 4, _ => exact ⟨rfl, .array (.int), by decide +kernel, 2, rfl, rfl⟩
  | 5, _ => exact ⟨rfl, .array (.int), by decide +kernel, 2, rfl, rfl⟩
  | 6, _ => exact ⟨rfl, .array (.int), by decide +kernel, 2, rfl, rfl⟩
  | k + 7, hk => exact absurd hk (by omega)
theorem pm_w4 : ∀ w ∈ u_ws "LetHorizon$Line" pm_T4 9, w ∈ pm_G := by
  intro w hw
  obtain ⟨k, hk, rfl⟩ := List.mem_map.mp hw
  have hk := List.mem_range.mp hk
  match k, hk with
  | 0, _ => exact gt 212 (by decide +kernel)
  | 1, _ => exact gt 214 (by decide +kernel)
  | 2, _ => exact gt 216 (by decide +kernel)
  | 3, _ => exact gt 218 (by decide +kernel)
  | 4, _ => exact gt 220 (by decide +kernel)
  | 5, _ => exact gt 222 (by decide +kernel)
  | 6, _ => exact gt 224 (by decide +kernel)
  | 7, _ => exact gt 226 (by decide +kernel)
  | 8, _ => exact gt 228 (by decide +kernel)
  | k + 9, hk => exact absurd hk (by omega)
theorem pm_n4 : ∀ a, a < 9 → ∀ b, b < 9 → a ≠ b → (pm_T4 a).2.1 ≠ (pm_T4 b).2.1 := by decide +kernel
theorem pm_y4 : ∀ k, k < 9 → (pm_T4 k).1 = "LetHorizon$Line" ∧ ∃ ty, parseFieldDescriptor (pm_T4 k).2.2.1 = some ty ∧ ∃ t, (pm_k 4)[k]? = some t ∧ ma_kt t ty = true := by
  intro k hk
  match k, hk with
  | 0, _ => exact ⟨rfl, .array (.int), by decide +kernel, 2, rfl, rfl⟩
  | 1, _ => exact ⟨rfl, .array (.int), by decide +kernel, 2, rfl, rfl⟩
  | 2, _ => exact ⟨rfl, .array (.int), by decide +kernel, 2, rfl, rfl⟩
  | 3, _ => exact ⟨rfl, .array (.int), by decide +kernel, 2, rfl, rfl⟩
  | 4, _ => exact ⟨rfl, .int, by decide +kernel, 0, rfl, rfl⟩
  | 5, _ => exact ⟨rfl, .int, by decide +kernel, 0, rfl, rfl⟩
  | 6, _ => exact ⟨rfl, .int, by decide +kernel, 0, rfl, rfl⟩
  | 7, _ => exact ⟨rfl, .int, by decide +kernel, 0, rfl, rfl⟩
  | 8, _ => exact ⟨rfl, .int, by decide +kernel, 0, rfl, rfl⟩
  | k + 9, hk => exact absurd hk (by omega)
theorem pm_w5 : ∀ w ∈ u_ws "LetHorizon$Past" pm_T5 2, w ∈ pm_G := by
  intro w hw
  obtain ⟨k, hk, rfl⟩ := List.mem_map.mp hw
  have hk := List.mem_range.mp hk
  match k, hk with
  | 0, _ => exact gt 253 (by decide +kernel)
  | 1, _ => exact gt 255 (by decide +kernel)
  | k + 2, hk => exact absurd hk (by omega)
theorem pm_n5 : ∀ a, a < 2 → ∀ b, b < 2 → a ≠ b → (pm_T5 a).2.1 ≠ (pm_T5 b).2.1 := by decide +kernel
theorem pm_y5 : ∀ k, k < 2 → (pm_T5 k).1 = "LetHorizon$Past" ∧ ∃ ty, parseFieldDescriptor (pm_T5 k).2.2.1 = some ty ∧ ∃ t, (pm_k 5)[k]? = some t ∧ ma_kt t ty = true := by
  intro k hk
  match k, hk with
  | 0, _ => exact ⟨rfl, .array (.object "LetHorizon$Line"), by decide +kernel, 2, rfl, rfl⟩
  | 1, _ => exact ⟨rfl, .int, by decide +kernel, 0, rfl, rfl⟩
  | k + 2, hk => exact absurd hk (by omega)
theorem pm_w6 : ∀ w ∈ u_ws "LetHorizon$Reader" pm_T6 4, w ∈ pm_G := by
  intro w hw
  obtain ⟨k, hk, rfl⟩ := List.mem_map.mp hw
  have hk := List.mem_range.mp hk
  match k, hk with
  | 0, _ => exact gt 310 (by decide +kernel)
  | 1, _ => exact gt 312 (by decide +kernel)
  | 2, _ => exact gt 314 (by decide +kernel)
  | 3, _ => exact gt 316 (by decide +kernel)
  | k + 4, hk => exact absurd hk (by omega)
theorem pm_n6 : ∀ a, a < 4 → ∀ b, b < 4 → a ≠ b → (pm_T6 a).2.1 ≠ (pm_T6 b).2.1 := by decide +kernel
theorem pm_y6 : ∀ k, k < 4 → (pm_T6 k).1 = "LetHorizon$Reader" ∧ ∃ ty, parseFieldDescriptor (pm_T6 k).2.2.1 = some ty ∧ ∃ t, (pm_k 6)[k]? = some t ∧ ma_kt t ty = true := by
  intro k hk
  match k, hk with
  | 0, _ => exact ⟨rfl, .object "LetHorizon$Tokens", by decide +kernel, 2, rfl, rfl⟩
  | 1, _ => exact ⟨rfl, .object "LetHorizon$Told", by decide +kernel, 2, rfl, rfl⟩
  | 2, _ => exact ⟨rfl, .object "LetHorizon$Law", by decide +kernel, 2, rfl, rfl⟩
  | 3, _ => exact ⟨rfl, .object "LetHorizon$Rows", by decide +kernel, 2, rfl, rfl⟩
  | k + 4, hk => exact absurd hk (by omega)
theorem pm_w7 : ∀ w ∈ u_ws "LetHorizon$Rows" pm_T7 2, w ∈ pm_G := by
  intro w hw
  obtain ⟨k, hk, rfl⟩ := List.mem_map.mp hw
  have hk := List.mem_range.mp hk
  match k, hk with
  | 0, _ => exact gt 87 (by decide +kernel)
  | 1, _ => exact gt 89 (by decide +kernel)
  | k + 2, hk => exact absurd hk (by omega)
theorem pm_n7 : ∀ a, a < 2 → ∀ b, b < 2 → a ≠ b → (pm_T7 a).2.1 ≠ (pm_T7 b).2.1 := by decide +kernel
theorem pm_y7 : ∀ k, k < 2 → (pm_T7 k).1 = "LetHorizon$Rows" ∧ ∃ ty, parseFieldDescriptor (pm_T7 k).2.2.1 = some ty ∧ ∃ t, (pm_k 7)[k]? = some t ∧ ma_kt t ty = true := by
  intro k hk
  match k, hk with
  | 0, _ => exact ⟨rfl, .int, by decide +kernel, 0, rfl, rfl⟩
  | 1, _ => exact ⟨rfl, .array (.int), by decide +kernel, 2, rfl, rfl⟩
  | k + 2, hk => exact absurd hk (by omega)
theorem pm_w8 : ∀ w ∈ u_ws "LetHorizon$Thought" pm_T8 10, w ∈ pm_G := by
  intro w hw
  obtain ⟨k, hk, rfl⟩ := List.mem_map.mp hw
  have hk := List.mem_range.mp hk
  match k, hk with
  | 0, _ => exact gt 381 (by decide +kernel)
  | 1, _ => exact gt 383 (by decide +kernel)
  | 2, _ => exact gt 385 (by decide +kernel)
  | 3, _ => exact gt 387 (by decide +kernel)
  | 4, _ => exact gt 389 (by decide +kernel)
  | 5, _ => exact gt 391 (by decide +kernel)
  | 6, _ => exact gt 393 (by decide +kernel)
  | 7, _ => exact gt 395 (by decide +kernel)
  | 8, _ => exact gt 397 (by decide +kernel)
  | 9, _ => exact gt 399 (by decide +kernel)
  | k + 10, hk => exact absurd hk (by omega)
theorem pm_n8 : ∀ a, a < 10 → ∀ b, b < 10 → a ≠ b → (pm_T8 a).2.1 ≠ (pm_T8 b).2.1 := by decide +kernel
theorem pm_y8 : ∀ k, k < 10 → (pm_T8 k).1 = "LetHorizon$Thought" ∧ ∃ ty, parseFieldDescriptor (pm_T8 k).2.2.1 = some ty ∧ ∃ t, (pm_k 8)[k]? = some t ∧ ma_kt t ty = true := by
  intro k hk
  match k, hk with
  | 0, _ => exact ⟨rfl, .object "LetHorizon$Told", by decide +kernel, 2, rfl, rfl⟩
  | 1, _ => exact ⟨rfl, .object "LetHorizon$Line", by decide +kernel, 2, rfl, rfl⟩
  | 2, _ => exact ⟨rfl, .object "LetHorizon$Asker", by decide +kernel, 2, rfl, rfl⟩
  | 3, _ => exact ⟨rfl, .object "LetHorizon$Line", by decide +kernel, 2, rfl, rfl⟩
  | 4, _ => exact ⟨rfl, .array (.int), by decide +kernel, 2, rfl, rfl⟩
  | 5, _ => exact ⟨rfl, .array (.int), by decide +kernel, 2, rfl, rfl⟩
  | 6, _ => exact ⟨rfl, .array (.array (.int)), by decide +kernel, 2, rfl, rfl⟩
  | 7, _ => exact ⟨rfl, .array (.array (.int)), by decide +kernel, 2, rfl, rfl⟩
  | 8, _ => exact ⟨rfl, .array (.long), by decide +kernel, 2, rfl, rfl⟩
  | 9, _ => exact ⟨rfl, .array (.int), by decide +kernel, 2, rfl, rfl⟩
  | k + 10, hk => exact absurd hk (by omega)
theorem pm_w9 : ∀ w ∈ u_ws "LetHorizon$Tokens" pm_T9 9, w ∈ pm_G := by
  intro w hw
  obtain ⟨k, hk, rfl⟩ := List.mem_map.mp hw
  have hk := List.mem_range.mp hk
  match k, hk with
  | 0, _ => exact gt 276 (by decide +kernel)
  | 1, _ => exact gt 278 (by decide +kernel)
  | 2, _ => exact gt 280 (by decide +kernel)
  | 3, _ => exact gt 282 (by decide +kernel)
  | 4, _ => exact gt 284 (by decide +kernel)
  | 5, _ => exact gt 286 (by decide +kernel)
  | 6, _ => exact gt 288 (by decide +kernel)
  | 7, _ => exact gt 290 (by decide +kernel)
  | 8, _ => exact gt 292 (by decide +kernel)
  | k + 9, hk => exact absurd hk (by omega)
theorem pm_n9 : ∀ a, a < 9 → ∀ b, b < 9 → a ≠ b → (pm_T9 a).2.1 ≠ (pm_T9 b).2.1 := by decide +kernel
theorem pm_y9 : ∀ k, k < 9 → (pm_T9 k).1 = "LetHorizon$Tokens" ∧ ∃ ty, parseFieldDescriptor (pm_T9 k).2.2.1 = some ty ∧ ∃ t, (pm_k 9)[k]? = some t ∧ ma_kt t ty = true := by
  intro k hk
  match k, hk with
  | 0, _ => exact ⟨rfl, .array (.byte), by decide +kernel, 2, rfl, rfl⟩
  | 1, _ => exact ⟨rfl, .int, by decide +kernel, 0, rfl, rfl⟩
  | 2, _ => exact ⟨rfl, .array (.int), by decide +kernel, 2, rfl, rfl⟩
  | 3, _ => exact ⟨rfl, .array (.int), by decide +kernel, 2, rfl, rfl⟩
  | 4, _ => exact ⟨rfl, .array (.int), by decide +kernel, 2, rfl, rfl⟩
  | 5, _ => exact ⟨rfl, .int, by decide +kernel, 0, rfl, rfl⟩
  | 6, _ => exact ⟨rfl, .int, by decide +kernel, 0, rfl, rfl⟩
  | 7, _ => exact ⟨rfl, .int, by decide +kernel, 0, rfl, rfl⟩
  | 8, _ => exact ⟨rfl, .int, by decide +kernel, 0, rfl, rfl⟩
  | k + 9, hk => exact absurd hk (by omega)
theorem pm_w10 : ∀ w ∈ u_ws "LetHorizon$Told" pm_T10 14, w ∈ pm_G := by
  intro w hw
  obtain ⟨k, hk, rfl⟩ := List.mem_map.mp hw
  have hk := List.mem_range.mp hk
  match k, hk with
  | 0, _ => exact gt 144 (by decide +kernel)
  | 1, _ => exact gt 146 (by decide +kernel)
  | 2, _ => exact gt 148 (by decide +kernel)
  | 3, _ => exact gt 150 (by decide +kernel)
  | 4, _ => exact gt 152 (by decide +kernel)
  | 5, _ => exact gt 154 (by decide +kernel)
  | 6, _ => exact gt 156 (by decide +kernel)
  | 7, _ => exact gt 158 (by decide +kernel)
  | 8, _ => exact gt 160 (by decide +kernel)
  | 9, _ => exact gt 162 (by decide +kernel)
  | 10, _ => exact gt 164 (by decide +kernel)
  | 11, _ => exact gt 166 (by decide +kernel)
  | 12, _ => exact gt 168 (by decide +kernel)
  | 13, _ => exact gt 170 (by decide +kernel)
  | k + 14, hk => exact absurd hk (by omega)
theorem pm_n10 : ∀ a, a < 14 → ∀ b, b < 14 → a ≠ b → (pm_T10 a).2.1 ≠ (pm_T10 b).2.1 := by decide +kernel
theorem pm_y10 : ∀ k, k < 14 → (pm_T10 k).1 = "LetHorizon$Told" ∧ ∃ ty, parseFieldDescriptor (pm_T10 k).2.2.1 = some ty ∧ ∃ t, (pm_k 10)[k]? = some t ∧ ma_kt t ty = true := by
  intro k hk
  match k, hk with
  | 0, _ => exact ⟨rfl, .int, by decide +kernel, 0, rfl, rfl⟩
  | 1, _ => exact ⟨rfl, .int, by decide +kernel, 0, rfl, rfl⟩
  | 2, _ => exact ⟨rfl, .int, by decide +kernel, 0, rfl, rfl⟩
  | 3, _ => exact ⟨rfl, .int, by decide +kernel, 0, rfl, rfl⟩
  | 4, _ => exact ⟨rfl, .array (.int), by decide +kernel, 2, rfl, rfl⟩
  | 5, _ => exact ⟨rfl, .int, by decide +kernel, 0, rfl, rfl⟩
  | 6, _ => exact ⟨rfl, .array (.int), by decide +kernel, 2, rfl, rfl⟩
  | 7, _ => exact ⟨rfl, .array (.int), by decide +kernel, 2, rfl, rfl⟩
  | 8, _ => exact ⟨rfl, .int, by decide +kernel, 0, rfl, rfl⟩
  | 9, _ => exact ⟨rfl, .array (.int), by decide +kernel, 2, rfl, rfl⟩
  | 10, _ => exact ⟨rfl, .array (.int), by decide +kernel, 2, rfl, rfl⟩
  | 11, _ => exact ⟨rfl, .object "LetHorizon$Law", by decide +kernel, 2, rfl, rfl⟩
  | 12, _ => exact ⟨rfl, .object "LetHorizon$Rows", by decide +kernel, 2, rfl, rfl⟩
  | 13, _ => exact ⟨rfl, .object "LetHorizon$Rows", by decide +kernel, 2, rfl, rfl⟩
  | k + 14, hk => exact absurd hk (by omega)
theorem pm_w11 : ∀ w ∈ u_ws "LetHorizon$Works" pm_T11 6, w ∈ pm_G := by
  intro w hw
  obtain ⟨k, hk, rfl⟩ := List.mem_map.mp hw
  have hk := List.mem_range.mp hk
  match k, hk with
  | 0, _ => exact gt 350 (by decide +kernel)
  | 1, _ => exact gt 352 (by decide +kernel)
  | 2, _ => exact gt 354 (by decide +kernel)
  | 3, _ => exact gt 356 (by decide +kernel)
  | 4, _ => exact gt 358 (by decide +kernel)
  | 5, _ => exact gt 360 (by decide +kernel)
  | k + 6, hk => exact absurd hk (by omega)
theorem pm_n11 : ∀ a, a < 6 → ∀ b, b < 6 → a ≠ b → (pm_T11 a).2.1 ≠ (pm_T11 b).2.1 := by decide +kernel
theorem pm_y11 : ∀ k, k < 6 → (pm_T11 k).1 = "LetHorizon$Works" ∧ ∃ ty, parseFieldDescriptor (pm_T11 k).2.2.1 = some ty ∧ ∃ t, (pm_k 11)[k]? = some t ∧ ma_kt t ty = true := by
  intro k hk
  match k, hk with
  | 0, _ => exact ⟨rfl, .object "LetHorizon$Told", by decide +kernel, 2, rfl, rfl⟩
  | 1, _ => exact ⟨rfl, .object "LetHorizon$Asker", by decide +kernel, 2, rfl, rfl⟩
  | 2, _ => exact ⟨rfl, .object "LetHorizon$Book", by decide +kernel, 2, rfl, rfl⟩
  | 3, _ => exact ⟨rfl, .int, by decide +kernel, 0, rfl, rfl⟩
  | 4, _ => exact ⟨rfl, .int, by decide +kernel, 0, rfl, rfl⟩
  | 5, _ => exact ⟨rfl, .int, by decide +kernel, 0, rfl, rfl⟩
  | k + 6, hk => exact absurd hk (by omega)
theorem pm_w12 : ∀ w ∈ u_ws "LetHorizonModel" pm_T12 58, w ∈ pm_G := by
  intro w hw
  obtain ⟨k, hk, rfl⟩ := List.mem_map.mp hw
  have hk := List.mem_range.mp hk
  match k, hk with
  | 0, _ => exact gt 1269 (by decide +kernel)
  | 1, _ => exact gt 1271 (by decide +kernel)
  | 2, _ => exact gt 1273 (by decide +kernel)
  | 3, _ => exact gt 1275 (by decide +kernel)
  | 4, _ => exact gt 1277 (by decide +kernel)
  | 5, _ => exact gt 1279 (by decide +kernel)
  | 6, _ => exact gt 1281 (by decide +kernel)
  | 7, _ => exact gt 1283 (by decide +kernel)
  | 8, _ => exact gt 1285 (by decide +kernel)
  | 9, _ => exact gt 1287 (by decide +kernel)
  | 10, _ => exact gt 1289 (by decide +kernel)
  | 11, _ => exact gt 1291 (by decide +kernel)
  | 12, _ => exact gt 1293 (by decide +kernel)
  | 13, _ => exact gt 1295 (by decide +kernel)
  | 14, _ => exact gt 1297 (by decide +kernel)
  | 15, _ => exact gt 1299 (by decide +kernel)
  | 16, _ => exact gt 1301 (by decide +kernel)
  | 17, _ => exact gt 1303 (by decide +kernel)
  | 18, _ => exact gt 1305 (by decide +kernel)
  | 19, _ => exact gt 1307 (by decide +kernel)
  | 20, _ => exact gt 1309 (by decide +kernel)
  | 21, _ => exact gt 1311 (by decide +kernel)
  | 22, _ => exact gt 1313 (by decide +kernel)
  | 23, _ => exact gt 1315 (by decide +kernel)
  | 24, _ => exact gt 1317 (by decide +kernel)
  | 25, _ => exact gt 1319 (by decide +kernel)
  | 26, _ => exact gt 1321 (by decide +kernel)
  | 27, _ => exact gt 1323 (by decide +kernel)
  | 28, _ => exact gt 1325 (by decide +kernel)
  | 29, _ => exact gt 1327 (by decide +kernel)
  | 30, _ => exact gt 1329 (by decide +kernel)
  | 31, _ => exact gt 1331 (by decide +kernel)
  | 32, _ => exact gt 1333 (by decide +kernel)
  | 33, _ => exact gt 1335 (by decide +kernel)
  | 34, _ => exact gt 1337 (by decide +kernel)
  | 35, _ => exact gt 1339 (by decide +kernel)
  | 36, _ => exact gt 1341 (by decide +kernel)
  | 37, _ => exact gt 1343 (by decide +kernel)
  | 38, _ => exact gt 1345 (by decide +kernel)
  | 39, _ => exact gt 1347 (by decide +kernel)
  | 40, _ => exact gt 1349 (by decide +kernel)
  | 41, _ => exact gt 1351 (by decide +kernel)
  | 42, _ => exact gt 1353 (by decide +kernel)
  | 43, _ => exact gt 1355 (by decide +kernel)
  | 44, _ => exact gt 1357 (by decide +kernel)
  | 45, _ => exact gt 1359 (by decide +kernel)
  | 46, _ => exact gt 1361 (by decide +kernel)
  | 47, _ => exact gt 1363 (by decide +kernel)
  | 48, _ => exact gt 1365 (by decide +kernel)
  | 49, _ => exact gt 1367 (by decide +kernel)
  | 50, _ => exact gt 1369 (by decide +kernel)
  | 51, _ => exact gt 1371 (by decide +kernel)
  | 52, _ => exact gt 1373 (by decide +kernel)
  | 53, _ => exact gt 1375 (by decide +kernel)
  | 54, _ => exact gt 1377 (by decide +kernel)
  | 55, _ => exact gt 1379 (by decide +kernel)
  | 56, _ => exact gt 1381 (by decide +kernel)
  | 57, _ => exact gt 1383 (by decide +kernel)
  | k + 58, hk => exact absurd hk (by omega)
theorem pm_n12 : ∀ a, a < 58 → ∀ b, b < 58 → a ≠ b → (pm_T12 a).2.1 ≠ (pm_T12 b).2.1 := by decide +kernel
theorem pm_y12 : ∀ k, k < 58 → (pm_T12 k).1 = "LetHorizonModel" ∧ ∃ ty, parseFieldDescriptor (pm_T12 k).2.2.1 = some ty ∧ ∃ t, (pm_k 12)[k]? = some t ∧ ma_kt t ty = true := by
  intro k hk
  match k, hk with
  | 0, _ => exact ⟨rfl, .int, by decide +kernel, 0, rfl, rfl⟩
  | 1, _ => exact ⟨rfl, .array (.int), by decide +kernel, 2, rfl, rfl⟩
  | 2, _ => exact ⟨rfl, .array (.int), by decide +kernel, 2, rfl, rfl⟩
  | 3, _ => exact ⟨rfl, .int, by decide +kernel, 0, rfl, rfl⟩
  | 4, _ => exact ⟨rfl, .array (.int), by decide +kernel, 2, rfl, rfl⟩
  | 5, _ => exact ⟨rfl, .boolean, by decide +kernel, 1, rfl, rfl⟩
  | 6, _ => exact ⟨rfl, .int, by decide +kernel, 0, rfl, rfl⟩
  | 7, _ => exact ⟨rfl, .int, by decide +kernel, 0, rfl, rfl⟩
  | 8, _ => exact ⟨rfl, .int, by decide +kernel, 0, rfl, rfl⟩
  | 9, _ => exact ⟨rfl, .int, by decide +kernel, 0, rfl, rfl⟩
  | 10, _ => exact ⟨rfl, .int, by decide +kernel, 0, rfl, rfl⟩
  | 11, _ => exact ⟨rfl, .array (.int), by decide +kernel, 2, rfl, rfl⟩
  | 12, _ => exact ⟨rfl, .array (.int), by decide +kernel, 2, rfl, rfl⟩
  | 13, _ => exact ⟨rfl, .array (.int), by decide +kernel, 2, rfl, rfl⟩
  | 14, _ => exact ⟨rfl, .array (.int), by decide +kernel, 2, rfl, rfl⟩
  | 15, _ => exact ⟨rfl, .array (.int), by decide +kernel, 2, rfl, rfl⟩
  | 16, _ => exact ⟨rfl, .int, by decide +kernel, 0, rfl, rfl⟩
  | 17, _ => exact ⟨rfl, .int, by decide +kernel, 0, rfl, rfl⟩
  | 18, _ => exact ⟨rfl, .int, by decide +kernel, 0, rfl, rfl⟩
  | 19, _ => exact ⟨rfl, .int, by decide +kernel, 0, rfl, rfl⟩
  | 20, _ => exact ⟨rfl, .int, by decide +kernel, 0, rfl, rfl⟩
  | 21, _ => exact ⟨rfl, .array (.int), by decide +kernel, 2, rfl, rfl⟩
  | 22, _ => exact ⟨rfl, .array (.int), by decide +kernel, 2, rfl, rfl⟩
  | 23, _ => exact ⟨rfl, .array (.int), by decide +kernel, 2, rfl, rfl⟩
  | 24, _ => exact ⟨rfl, .array (.int), by decide +kernel, 2, rfl, rfl⟩
  | 25, _ => exact ⟨rfl, .array (.int), by decide +kernel, 2, rfl, rfl⟩
  | 26, _ => exact ⟨rfl, .array (.int), by decide +kernel, 2, rfl, rfl⟩
  | 27, _ => exact ⟨rfl, .array (.int), by decide +kernel, 2, rfl, rfl⟩
  | 28, _ => exact ⟨rfl, .array (.int), by decide +kernel, 2, rfl, rfl⟩
  | 29, _ => exact ⟨rfl, .int, by decide +kernel, 0, rfl, rfl⟩
  | 30, _ => exact ⟨rfl, .int, by decide +kernel, 0, rfl, rfl⟩
  | 31, _ => exact ⟨rfl, .int, by decide +kernel, 0, rfl, rfl⟩
  | 32, _ => exact ⟨rfl, .array (.int), by decide +kernel, 2, rfl, rfl⟩
  | 33, _ => exact ⟨rfl, .int, by decide +kernel, 0, rfl, rfl⟩
  | 34, _ => exact ⟨rfl, .int, by decide +kernel, 0, rfl, rfl⟩
  | 35, _ => exact ⟨rfl, .int, by decide +kernel, 0, rfl, rfl⟩
  | 36, _ => exact ⟨rfl, .int, by decide +kernel, 0, rfl, rfl⟩
  | 37, _ => exact ⟨rfl, .int, by decide +kernel, 0, rfl, rfl⟩
  | 38, _ => exact ⟨rfl, .int, by decide +kernel, 0, rfl, rfl⟩
  | 39, _ => exact ⟨rfl, .array (.int), by decide +kernel, 2, rfl, rfl⟩
  | 40, _ => exact ⟨rfl, .int, by decide +kernel, 0, rfl, rfl⟩
  | 41, _ => exact ⟨rfl, .array (.int), by decide +kernel, 2, rfl, rfl⟩
  | 42, _ => exact ⟨rfl, .array (.int), by decide +kernel, 2, rfl, rfl⟩
  | 43, _ => exact ⟨rfl, .array (.int), by decide +kernel, 2, rfl, rfl⟩
  | 44, _ => exact ⟨rfl, .int, by decide +kernel, 0, rfl, rfl⟩
  | 45, _ => exact ⟨rfl, .int, by decide +kernel, 0, rfl, rfl⟩
  | 46, _ => exact ⟨rfl, .array (.int), by decide +kernel, 2, rfl, rfl⟩
  | 47, _ => exact ⟨rfl, .int, by decide +kernel, 0, rfl, rfl⟩
  | 48, _ => exact ⟨rfl, .array (.int), by decide +kernel, 2, rfl, rfl⟩
  | 49, _ => exact ⟨rfl, .array (.int), by decide +kernel, 2, rfl, rfl⟩
  | 50, _ => exact ⟨rfl, .int, by decide +kernel, 0, rfl, rfl⟩
  | 51, _ => exact ⟨rfl, .array (.int), by decide +kernel, 2, rfl, rfl⟩
  | 52, _ => exact ⟨rfl, .array (.int), by decide +kernel, 2, rfl, rfl⟩
  | 53, _ => exact ⟨rfl, .array (.int), by decide +kernel, 2, rfl, rfl⟩
  | 54, _ => exact ⟨rfl, .boolean, by decide +kernel, 1, rfl, rfl⟩
  | 55, _ => exact ⟨rfl, .boolean, by decide +kernel, 1, rfl, rfl⟩
  | 56, _ => exact ⟨rfl, .int, by decide +kernel, 0, rfl, rfl⟩
  | 57, _ => exact ⟨rfl, .array (.int), by decide +kernel, 2, rfl, rfl⟩
  | k + 58, hk => exact absurd hk (by omega)
theorem pm_cls : ma_cls pm_cl pm_k pm_G := by
  intro ci C T N h
  match ci, h with
  | 0, h => cases h; exact ⟨pm_w0, pm_n0, rfl, pm_y0⟩
  | 1, h => cases h; exact ⟨pm_w1, pm_n1, rfl, pm_y1⟩
  | 2, h => cases h; exact ⟨pm_w2, pm_n2, rfl, pm_y2⟩
  | 3, h => cases h; exact ⟨pm_w3, pm_n3, rfl, pm_y3⟩
  | 4, h => cases h; exact ⟨pm_w4, pm_n4, rfl, pm_y4⟩
  | 5, h => cases h; exact ⟨pm_w5, pm_n5, rfl, pm_y5⟩
  | 6, h => cases h; exact ⟨pm_w6, pm_n6, rfl, pm_y6⟩
  | 7, h => cases h; exact ⟨pm_w7, pm_n7, rfl, pm_y7⟩
  | 8, h => cases h; exact ⟨pm_w8, pm_n8, rfl, pm_y8⟩
  | 9, h => cases h; exact ⟨pm_w9, pm_n9, rfl, pm_y9⟩
  | 10, h => cases h; exact ⟨pm_w10, pm_n10, rfl, pm_y10⟩
  | 11, h => cases h; exact ⟨pm_w11, pm_n11, rfl, pm_y11⟩
  | 12, h => cases h; exact ⟨pm_w12, pm_n12, rfl, pm_y12⟩
  | k + 13, h => exact absurd (List.getElem?_eq_some_iff.mp h).1 (by show ¬ k + 13 < 13; omega)
theorem pm_good : ∀ w ∈ pm_G, ma_gw w = true ∨ pm_nw w = true := fun w hw => Bool.or_eq_true _ _ ▸ (List.mem_filter.mp hw).2
