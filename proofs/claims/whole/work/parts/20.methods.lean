/-! METHODS: their tuples and links to their code (written by wip/tools/gen22.py) -/
def m_In_bitCount : MM := (14, ⟨"java/lang/Integer", "bitCount", "(I)I"⟩, prog_18_method_49_code, 1, some .int, 0, 0)
theorem ok_In_bitCount : mOK m_In_bitCount := ⟨by decide +kernel, by decide +kernel⟩
theorem dk_In_bitCount (d : Nat) : dOK (d + 1) d m_In_bitCount := ⟨Nat.le_refl _, by show 19 + 1 + 40 * d ≤ 40 * (d + 1); omega⟩
set_option maxRecDepth 100000 in
theorem lc_In_bitCount : LkC m_In_bitCount 1 := ⟨lwG_in (List.mem_of_getElem? (i := 952) rfl) rfl, lwG_in (List.mem_of_getElem? (i := 135) rfl) rfl, by decide +kernel, by decide +kernel, by decide +kernel⟩
def m_Pi_clear : MM := (6, ⟨"FrostBox$Pile", "clear", "()V"⟩, prog_8_method_2_code, 1, none, 0, 0)
theorem ok_Pi_clear : mOK m_Pi_clear := ⟨by decide +kernel, by decide +kernel⟩
theorem dk_Pi_clear (d : Nat) : dOK (d + 1) d m_Pi_clear := ⟨Nat.le_refl _, by show 19 + 1 + 40 * d ≤ 40 * (d + 1); omega⟩
set_option maxRecDepth 100000 in
theorem lc_Pi_clear : LkC m_Pi_clear 0 := ⟨lwG_in (List.mem_of_getElem? (i := 485) rfl) rfl, lwG_in (List.mem_of_getElem? (i := 116) rfl) rfl, by decide +kernel, by decide +kernel, by decide +kernel⟩
def m_Pi_copyFrom : MM := (6, ⟨"FrostBox$Pile", "copyFrom", "(LFrostBox$Pile;)V"⟩, prog_8_method_3_code, 2, none, 0, 0)
theorem ok_Pi_copyFrom : mOK m_Pi_copyFrom := ⟨by decide +kernel, by decide +kernel⟩
theorem dk_Pi_copyFrom (d : Nat) : dOK (d + 1) d m_Pi_copyFrom := ⟨Nat.le_refl _, by show 19 + 2 + 40 * d ≤ 40 * (d + 1); omega⟩
set_option maxRecDepth 100000 in
theorem lc_Pi_copyFrom : LkC m_Pi_copyFrom 1 := ⟨lwG_in (List.mem_of_getElem? (i := 660) rfl) rfl, lwG_in (List.mem_of_getElem? (i := 116) rfl) rfl, by decide +kernel, by decide +kernel, by decide +kernel⟩
def m_Pi_hasPlace : MM := (6, ⟨"FrostBox$Pile", "hasPlace", "(I)Z"⟩, prog_8_method_4_code, 2, some .boolean, 0, 0)
theorem ok_Pi_hasPlace : mOK m_Pi_hasPlace := ⟨by decide +kernel, by decide +kernel⟩
theorem dk_Pi_hasPlace (d : Nat) : dOK (d + 1) d m_Pi_hasPlace := ⟨Nat.le_refl _, by show 19 + 2 + 40 * d ≤ 40 * (d + 1); omega⟩
set_option maxRecDepth 100000 in
theorem lc_Pi_hasPlace : LkC m_Pi_hasPlace 1 := ⟨lwG_in (List.mem_of_getElem? (i := 715) rfl) rfl, lwG_in (List.mem_of_getElem? (i := 116) rfl) rfl, by decide +kernel, by decide +kernel, by decide +kernel⟩
def m_Pi_indexOf : MM := (6, ⟨"FrostBox$Pile", "indexOf", "(I)I"⟩, prog_8_method_5_code, 2, some .int, 0, 0)
theorem ok_Pi_indexOf : mOK m_Pi_indexOf := ⟨by decide +kernel, by decide +kernel⟩
theorem dk_Pi_indexOf (d : Nat) : dOK (d + 1) d m_Pi_indexOf := ⟨Nat.le_refl _, by show 19 + 2 + 40 * d ≤ 40 * (d + 1); omega⟩
set_option maxRecDepth 100000 in
theorem lc_Pi_indexOf : LkC m_Pi_indexOf 1 := ⟨lwG_in (List.mem_of_getElem? (i := 719) rfl) rfl, lwG_in (List.mem_of_getElem? (i := 116) rfl) rfl, by decide +kernel, by decide +kernel, by decide +kernel⟩
def m_Pi_hasLabel : MM := (6, ⟨"FrostBox$Pile", "hasLabel", "(I)Z"⟩, prog_8_method_6_code, 2, some .boolean, 0, 0)
theorem ok_Pi_hasLabel : mOK m_Pi_hasLabel := ⟨by decide +kernel, by decide +kernel⟩
theorem dk_Pi_hasLabel (d : Nat) : dOK (d + 1) d m_Pi_hasLabel := ⟨Nat.le_refl _, by show 19 + 2 + 40 * d ≤ 40 * (d + 1); omega⟩
set_option maxRecDepth 100000 in
theorem lc_Pi_hasLabel : LkC m_Pi_hasLabel 1 := ⟨lwG_in (List.mem_of_getElem? (i := 766) rfl) rfl, lwG_in (List.mem_of_getElem? (i := 116) rfl) rfl, by decide +kernel, by decide +kernel, by decide +kernel⟩
def m_Pi_putLabel : MM := (6, ⟨"FrostBox$Pile", "putLabel", "(I)V"⟩, prog_8_method_7_code, 2, none, 0, 0)
theorem ok_Pi_putLabel : mOK m_Pi_putLabel := ⟨by decide +kernel, by decide +kernel⟩
theorem dk_Pi_putLabel (d : Nat) : dOK (d + 1) d m_Pi_putLabel := ⟨Nat.le_refl _, by show 19 + 2 + 40 * d ≤ 40 * (d + 1); omega⟩
set_option maxRecDepth 100000 in
theorem lc_Pi_putLabel : LkC m_Pi_putLabel 1 := ⟨lwG_in (List.mem_of_getElem? (i := 770) rfl) rfl, lwG_in (List.mem_of_getElem? (i := 116) rfl) rfl, by decide +kernel, by decide +kernel, by decide +kernel⟩
def m_Pi_portionsInAll : MM := (6, ⟨"FrostBox$Pile", "portionsInAll", "()I"⟩, prog_8_method_8_code, 3, some .int, 0, 0)
theorem ok_Pi_portionsInAll : mOK m_Pi_portionsInAll := ⟨by decide +kernel, by decide +kernel⟩
theorem dk_Pi_portionsInAll (d : Nat) : dOK (d + 1) d m_Pi_portionsInAll := ⟨Nat.le_refl _, by show 19 + 3 + 40 * d ≤ 40 * (d + 1); omega⟩
set_option maxRecDepth 100000 in
theorem lc_Pi_portionsInAll : LkC m_Pi_portionsInAll 0 := ⟨lwG_in (List.mem_of_getElem? (i := 555) rfl) rfl, lwG_in (List.mem_of_getElem? (i := 116) rfl) rfl, by decide +kernel, by decide +kernel, by decide +kernel⟩
def m_Pi_push : MM := (6, ⟨"FrostBox$Pile", "push", "(IIII)V"⟩, prog_8_method_9_code, 5, none, 0, 0)
theorem ok_Pi_push : mOK m_Pi_push := ⟨by decide +kernel, by decide +kernel⟩
theorem dk_Pi_push (d : Nat) : dOK (d + 1) d m_Pi_push := ⟨Nat.le_refl _, by show 19 + 5 + 40 * d ≤ 40 * (d + 1); omega⟩
set_option maxRecDepth 100000 in
theorem lc_Pi_push : LkC m_Pi_push 4 := ⟨lwG_in (List.mem_of_getElem? (i := 547) rfl) rfl, lwG_in (List.mem_of_getElem? (i := 116) rfl) rfl, by decide +kernel, by decide +kernel, by decide +kernel⟩
def m_Pi_remove : MM := (6, ⟨"FrostBox$Pile", "remove", "(I)V"⟩, prog_8_method_10_code, 3, none, 0, 0)
theorem ok_Pi_remove : mOK m_Pi_remove := ⟨by decide +kernel, by decide +kernel⟩
theorem dk_Pi_remove (d : Nat) : dOK (d + 1) d m_Pi_remove := ⟨Nat.le_refl _, by show 19 + 3 + 40 * d ≤ 40 * (d + 1); omega⟩
set_option maxRecDepth 100000 in
theorem lc_Pi_remove : LkC m_Pi_remove 1 := ⟨lwG_in (List.mem_of_getElem? (i := 758) rfl) rfl, lwG_in (List.mem_of_getElem? (i := 116) rfl) rfl, by decide +kernel, by decide +kernel, by decide +kernel⟩
def m_Pi_growOlder : MM := (6, ⟨"FrostBox$Pile", "growOlder", "(I)V"⟩, prog_8_method_11_code, 3, none, 0, 0)
theorem ok_Pi_growOlder : mOK m_Pi_growOlder := ⟨by decide +kernel, by decide +kernel⟩
theorem dk_Pi_growOlder (d : Nat) : dOK (d + 1) d m_Pi_growOlder := ⟨Nat.le_refl _, by show 19 + 3 + 40 * d ≤ 40 * (d + 1); omega⟩
set_option maxRecDepth 100000 in
theorem lc_Pi_growOlder : LkC m_Pi_growOlder 1 := ⟨lwG_in (List.mem_of_getElem? (i := 790) rfl) rfl, lwG_in (List.mem_of_getElem? (i := 116) rfl) rfl, by decide +kernel, by decide +kernel, by decide +kernel⟩
def m_Pi_passMonth : MM := (6, ⟨"FrostBox$Pile", "passMonth", "(I)V"⟩, prog_8_method_12_code, 3, none, 0, 0)
theorem ok_Pi_passMonth : mOK m_Pi_passMonth := ⟨by decide +kernel, by decide +kernel⟩
theorem dk_Pi_passMonth (d : Nat) : dOK (d + 1) d m_Pi_passMonth := ⟨Nat.le_refl _, by show 19 + 3 + 40 * d ≤ 40 * (d + 1); omega⟩
set_option maxRecDepth 100000 in
theorem lc_Pi_passMonth : LkC m_Pi_passMonth 1 := ⟨lwG_in (List.mem_of_getElem? (i := 786) rfl) rfl, lwG_in (List.mem_of_getElem? (i := 116) rfl) rfl, by decide +kernel, by decide +kernel, by decide +kernel⟩
def m_Ta_bytesIn : MM := (9, ⟨"FrostBox$Tape", "bytesIn", "(I)I"⟩, prog_11_method_2_code, 3, some .int, 0, 0)
theorem ok_Ta_bytesIn : mOK m_Ta_bytesIn := ⟨by decide +kernel, by decide +kernel⟩
theorem dk_Ta_bytesIn (d : Nat) : dOK (d + 1) d m_Ta_bytesIn := ⟨Nat.le_refl _, by show 19 + 3 + 40 * d ≤ 40 * (d + 1); omega⟩
set_option maxRecDepth 100000 in
theorem lc_Ta_bytesIn : LkC m_Ta_bytesIn 1 := ⟨lwG_in (List.mem_of_getElem? (i := 458) rfl) rfl, lwG_in (List.mem_of_getElem? (i := 114) rfl) rfl, by decide +kernel, by decide +kernel, by decide +kernel⟩
def m_Ta_append : MM := (9, ⟨"FrostBox$Tape", "append", "(I)V"⟩, prog_11_method_3_code, 4, none, 0, 0)
theorem ok_Ta_append : mOK m_Ta_append := ⟨by decide +kernel, by decide +kernel⟩
theorem dk_Ta_append (d : Nat) : dOK (d + 1) d m_Ta_append := ⟨Nat.le_refl _, by show 19 + 4 + 40 * d ≤ 40 * (d + 1); omega⟩
set_option maxRecDepth 100000 in
theorem lc_Ta_append : LkC m_Ta_append 1 := ⟨lwG_in (List.mem_of_getElem? (i := 462) rfl) rfl, lwG_in (List.mem_of_getElem? (i := 114) rfl) rfl, by decide +kernel, by decide +kernel, by decide +kernel⟩
def m_Ta_rewind : MM := (9, ⟨"FrostBox$Tape", "rewind", "()V"⟩, prog_11_method_4_code, 1, none, 0, 0)
theorem ok_Ta_rewind : mOK m_Ta_rewind := ⟨by decide +kernel, by decide +kernel⟩
theorem dk_Ta_rewind (d : Nat) : dOK (d + 1) d m_Ta_rewind := ⟨Nat.le_refl _, by show 19 + 1 + 40 * d ≤ 40 * (d + 1); omega⟩
set_option maxRecDepth 100000 in
theorem lc_Ta_rewind : LkC m_Ta_rewind 0 := ⟨lwG_in (List.mem_of_getElem? (i := 489) rfl) rfl, lwG_in (List.mem_of_getElem? (i := 114) rfl) rfl, by decide +kernel, by decide +kernel, by decide +kernel⟩
def m_Ta_ahead : MM := (9, ⟨"FrostBox$Tape", "ahead", "()I"⟩, prog_11_method_5_code, 1, some .int, 0, 0)
theorem ok_Ta_ahead : mOK m_Ta_ahead := ⟨by decide +kernel, by decide +kernel⟩
theorem dk_Ta_ahead (d : Nat) : dOK (d + 1) d m_Ta_ahead := ⟨Nat.le_refl _, by show 19 + 1 + 40 * d ≤ 40 * (d + 1); omega⟩
set_option maxRecDepth 100000 in
theorem lc_Ta_ahead : LkC m_Ta_ahead 0 := ⟨lwG_in (List.mem_of_getElem? (i := 497) rfl) rfl, lwG_in (List.mem_of_getElem? (i := 114) rfl) rfl, by decide +kernel, by decide +kernel, by decide +kernel⟩
def m_Ta_pass : MM := (9, ⟨"FrostBox$Tape", "pass", "()V"⟩, prog_11_method_6_code, 1, none, 0, 0)
theorem ok_Ta_pass : mOK m_Ta_pass := ⟨by decide +kernel, by decide +kernel⟩
theorem dk_Ta_pass (d : Nat) : dOK (d + 1) d m_Ta_pass := ⟨Nat.le_refl _, by show 19 + 1 + 40 * d ≤ 40 * (d + 1); omega⟩
set_option maxRecDepth 100000 in
theorem lc_Ta_pass : LkC m_Ta_pass 0 := ⟨lwG_in (List.mem_of_getElem? (i := 501) rfl) rfl, lwG_in (List.mem_of_getElem? (i := 114) rfl) rfl, by decide +kernel, by decide +kernel, by decide +kernel⟩
def m_Ta_refuse : MM := (9, ⟨"FrostBox$Tape", "refuse", "()Z"⟩, prog_11_method_7_code, 1, some .boolean, 0, 0)
theorem ok_Ta_refuse : mOK m_Ta_refuse := ⟨by decide +kernel, by decide +kernel⟩
theorem dk_Ta_refuse (d : Nat) : dOK (d + 1) d m_Ta_refuse := ⟨Nat.le_refl _, by show 19 + 1 + 40 * d ≤ 40 * (d + 1); omega⟩
set_option maxRecDepth 100000 in
theorem lc_Ta_refuse : LkC m_Ta_refuse 0 := ⟨lwG_in (List.mem_of_getElem? (i := 518) rfl) rfl, lwG_in (List.mem_of_getElem? (i := 114) rfl) rfl, by decide +kernel, by decide +kernel, by decide +kernel⟩
def m_Ta_refuseLast : MM := (9, ⟨"FrostBox$Tape", "refuseLast", "()Z"⟩, prog_11_method_8_code, 1, some .boolean, 0, 0)
theorem ok_Ta_refuseLast : mOK m_Ta_refuseLast := ⟨by decide +kernel, by decide +kernel⟩
theorem dk_Ta_refuseLast (d : Nat) : dOK (d + 1) d m_Ta_refuseLast := ⟨Nat.le_refl _, by show 19 + 1 + 40 * d ≤ 40 * (d + 1); omega⟩
set_option maxRecDepth 100000 in
theorem lc_Ta_refuseLast : LkC m_Ta_refuseLast 0 := ⟨lwG_in (List.mem_of_getElem? (i := 531) rfl) rfl, lwG_in (List.mem_of_getElem? (i := 114) rfl) rfl, by decide +kernel, by decide +kernel, by decide +kernel⟩
def m_Ta_demand : MM := (9, ⟨"FrostBox$Tape", "demand", "(I)Z"⟩, prog_11_method_9_code, 2, some .boolean, 0, 0)
theorem ok_Ta_demand : mOK m_Ta_demand := ⟨by decide +kernel, by decide +kernel⟩
theorem dk_Ta_demand (d : Nat) : dOK (d + 1) d m_Ta_demand := ⟨Nat.le_refl _, by show 19 + 2 + 40 * d ≤ 40 * (d + 1); omega⟩
set_option maxRecDepth 100000 in
theorem lc_Ta_demand : LkC m_Ta_demand 1 := ⟨lwG_in (List.mem_of_getElem? (i := 559) rfl) rfl, lwG_in (List.mem_of_getElem? (i := 114) rfl) rfl, by decide +kernel, by decide +kernel, by decide +kernel⟩
def m_Ta_digitIsHere : MM := (9, ⟨"FrostBox$Tape", "digitIsHere", "()Z"⟩, prog_11_method_10_code, 1, some .boolean, 0, 0)
theorem ok_Ta_digitIsHere : mOK m_Ta_digitIsHere := ⟨by decide +kernel, by decide +kernel⟩
theorem dk_Ta_digitIsHere (d : Nat) : dOK (d + 1) d m_Ta_digitIsHere := ⟨Nat.le_refl _, by show 19 + 1 + 40 * d ≤ 40 * (d + 1); omega⟩
set_option maxRecDepth 100000 in
theorem lc_Ta_digitIsHere : LkC m_Ta_digitIsHere 0 := ⟨lwG_in (List.mem_of_getElem? (i := 527) rfl) rfl, lwG_in (List.mem_of_getElem? (i := 114) rfl) rfl, by decide +kernel, by decide +kernel, by decide +kernel⟩
def m_Ta_digit : MM := (9, ⟨"FrostBox$Tape", "digit", "()I"⟩, prog_11_method_11_code, 1, some .int, 0, 0)
theorem ok_Ta_digit : mOK m_Ta_digit := ⟨by decide +kernel, by decide +kernel⟩
theorem dk_Ta_digit (d : Nat) : dOK (d + 1) d m_Ta_digit := ⟨Nat.le_refl _, by show 19 + 1 + 40 * d ≤ 40 * (d + 1); omega⟩
set_option maxRecDepth 100000 in
theorem lc_Ta_digit : LkC m_Ta_digit 0 := ⟨lwG_in (List.mem_of_getElem? (i := 630) rfl) rfl, lwG_in (List.mem_of_getElem? (i := 114) rfl) rfl, by decide +kernel, by decide +kernel, by decide +kernel⟩
def m_Ta_number : MM := (9, ⟨"FrostBox$Tape", "number", "(I)I"⟩, prog_11_method_12_code, 4, some .int, 0, 0)
theorem ok_Ta_number : mOK m_Ta_number := ⟨by decide +kernel, by decide +kernel⟩
theorem dk_Ta_number (d : Nat) : dOK (d + 1) d m_Ta_number := ⟨Nat.le_refl _, by show 19 + 4 + 40 * d ≤ 40 * (d + 1); omega⟩
set_option maxRecDepth 100000 in
theorem lc_Ta_number : LkC m_Ta_number 1 := ⟨lwG_in (List.mem_of_getElem? (i := 522) rfl) rfl, lwG_in (List.mem_of_getElem? (i := 114) rfl) rfl, by decide +kernel, by decide +kernel, by decide +kernel⟩
def m_Me_add : MM := (4, ⟨"FrostBox$Meals", "add", "(IIII)V"⟩, prog_6_method_2_code, 6, none, 0, 0)
theorem ok_Me_add : mOK m_Me_add := ⟨by decide +kernel, by decide +kernel⟩
theorem dk_Me_add (d : Nat) : dOK (d + 1) d m_Me_add := ⟨Nat.le_refl _, by show 19 + 6 + 40 * d ≤ 40 * (d + 1); omega⟩
set_option maxRecDepth 100000 in
theorem lc_Me_add : LkC m_Me_add 4 := ⟨lwG_in (List.mem_of_getElem? (i := 754) rfl) rfl, lwG_in (List.mem_of_getElem? (i := 118) rfl) rfl, by decide +kernel, by decide +kernel, by decide +kernel⟩
def m_Me_length : MM := (4, ⟨"FrostBox$Meals", "length", "()I"⟩, prog_6_method_3_code, 1, some .int, 0, 0)
theorem ok_Me_length : mOK m_Me_length := ⟨by decide +kernel, by decide +kernel⟩
theorem dk_Me_length (d : Nat) : dOK (d + 1) d m_Me_length := ⟨Nat.le_refl _, by show 19 + 1 + 40 * d ≤ 40 * (d + 1); omega⟩
set_option maxRecDepth 100000 in
theorem lc_Me_length : LkC m_Me_length 0 := ⟨lwG_in (List.mem_of_getElem? (i := 841) rfl) rfl, lwG_in (List.mem_of_getElem? (i := 118) rfl) rfl, by decide +kernel, by decide +kernel, by decide +kernel⟩
def m_Me_told : MM := (4, ⟨"FrostBox$Meals", "told", "(II)I"⟩, prog_6_method_4_code, 3, some .int, 0, 0)
theorem ok_Me_told : mOK m_Me_told := ⟨by decide +kernel, by decide +kernel⟩
theorem dk_Me_told (d : Nat) : dOK (d + 1) d m_Me_told := ⟨Nat.le_refl _, by show 19 + 3 + 40 * d ≤ 40 * (d + 1); omega⟩
set_option maxRecDepth 100000 in
theorem lc_Me_told : LkC m_Me_told 2 := ⟨lwG_in (List.mem_of_getElem? (i := 846) rfl) rfl, lwG_in (List.mem_of_getElem? (i := 118) rfl) rfl, by decide +kernel, by decide +kernel, by decide +kernel⟩
def m_Me_valueInAll : MM := (4, ⟨"FrostBox$Meals", "valueInAll", "()I"⟩, prog_6_method_5_code, 3, some .int, 0, 0)
theorem ok_Me_valueInAll : mOK m_Me_valueInAll := ⟨by decide +kernel, by decide +kernel⟩
theorem dk_Me_valueInAll (d : Nat) : dOK (d + 1) d m_Me_valueInAll := ⟨Nat.le_refl _, by show 19 + 3 + 40 * d ≤ 40 * (d + 1); omega⟩
set_option maxRecDepth 100000 in
theorem lc_Me_valueInAll : LkC m_Me_valueInAll 0 := ⟨lwG_in (List.mem_of_getElem? (i := 1126) rfl) rfl, lwG_in (List.mem_of_getElem? (i := 118) rfl) rfl, by decide +kernel, by decide +kernel, by decide +kernel⟩
def m_Me_copyFrom : MM := (4, ⟨"FrostBox$Meals", "copyFrom", "(LFrostBox$Meals;)V"⟩, prog_6_method_6_code, 3, none, 0, 0)
theorem ok_Me_copyFrom : mOK m_Me_copyFrom := ⟨by decide +kernel, by decide +kernel⟩
theorem dk_Me_copyFrom (d : Nat) : dOK (d + 1) d m_Me_copyFrom := ⟨Nat.le_refl _, by show 19 + 3 + 40 * d ≤ 40 * (d + 1); omega⟩
set_option maxRecDepth 100000 in
theorem lc_Me_copyFrom : LkC m_Me_copyFrom 1 := ⟨lwG_in (List.mem_of_getElem? (i := 859) rfl) rfl, lwG_in (List.mem_of_getElem? (i := 118) rfl) rfl, by decide +kernel, by decide +kernel, by decide +kernel⟩
def m_Ac_save : MM := (0, ⟨"FrostBox$Acts", "save", "(LFrostBox$Pile;I)V"⟩, prog_2_method_2_code, 3, none, 0, 0)
theorem ok_Ac_save : mOK m_Ac_save := ⟨by decide +kernel, by decide +kernel⟩
theorem dk_Ac_save (d : Nat) : dOK (d + 1) d m_Ac_save := ⟨Nat.le_refl _, by show 19 + 3 + 40 * d ≤ 40 * (d + 1); omega⟩
set_option maxRecDepth 100000 in
theorem lc_Ac_save : LkC m_Ac_save 2 := ⟨lwG_in (List.mem_of_getElem? (i := 702) rfl) rfl, lwG_in (List.mem_of_getElem? (i := 117) rfl) rfl, by decide +kernel, by decide +kernel, by decide +kernel⟩
def m_Ac_giveBack : MM := (0, ⟨"FrostBox$Acts", "giveBack", "(LFrostBox$Pile;)I"⟩, prog_2_method_3_code, 2, some .int, 0, 0)
theorem ok_Ac_giveBack : mOK m_Ac_giveBack := ⟨by decide +kernel, by decide +kernel⟩
theorem dk_Ac_giveBack (d : Nat) : dOK (d + 1) d m_Ac_giveBack := ⟨Nat.le_refl _, by show 19 + 2 + 40 * d ≤ 40 * (d + 1); omega⟩
set_option maxRecDepth 100000 in
theorem lc_Ac_giveBack : LkC m_Ac_giveBack 1 := ⟨lwG_in (List.mem_of_getElem? (i := 833) rfl) rfl, lwG_in (List.mem_of_getElem? (i := 117) rfl) rfl, by decide +kernel, by decide +kernel, by decide +kernel⟩
def m_Sn_keepOf : MM := (8, ⟨"FrostBox$Snapshot", "keepOf", "(LFrostBox$Pile;LFrostBox$Meals;)V"⟩, prog_10_method_2_code, 3, none, 0, 0)
theorem ok_Sn_keepOf : mOK m_Sn_keepOf := ⟨by decide +kernel, by decide +kernel⟩
theorem dk_Sn_keepOf (d : Nat) : dOK (d + 1) d m_Sn_keepOf := ⟨Nat.le_refl _, by show 19 + 3 + 40 * d ≤ 40 * (d + 1); omega⟩
set_option maxRecDepth 100000 in
theorem lc_Sn_keepOf : LkC m_Sn_keepOf 2 := ⟨lwG_in (List.mem_of_getElem? (i := 854) rfl) rfl, lwG_in (List.mem_of_getElem? (i := 119) rfl) rfl, by decide +kernel, by decide +kernel, by decide +kernel⟩
def m_Sn_giveBack : MM := (8, ⟨"FrostBox$Snapshot", "giveBack", "(LFrostBox$Pile;LFrostBox$Meals;)V"⟩, prog_10_method_3_code, 3, none, 0, 0)
theorem ok_Sn_giveBack : mOK m_Sn_giveBack := ⟨by decide +kernel, by decide +kernel⟩
theorem dk_Sn_giveBack (d : Nat) : dOK (d + 1) d m_Sn_giveBack := ⟨Nat.le_refl _, by show 19 + 3 + 40 * d ≤ 40 * (d + 1); omega⟩
set_option maxRecDepth 100000 in
theorem lc_Sn_giveBack : LkC m_Sn_giveBack 2 := ⟨lwG_in (List.mem_of_getElem? (i := 868) rfl) rfl, lwG_in (List.mem_of_getElem? (i := 119) rfl) rfl, by decide +kernel, by decide +kernel, by decide +kernel⟩
def m_Lo_add : MM := (3, ⟨"FrostBox$Looks", "add", "(II)V"⟩, prog_5_method_2_code, 3, none, 0, 0)
theorem ok_Lo_add : mOK m_Lo_add := ⟨by decide +kernel, by decide +kernel⟩
theorem dk_Lo_add (d : Nat) : dOK (d + 1) d m_Lo_add := ⟨Nat.le_refl _, by show 19 + 3 + 40 * d ≤ 40 * (d + 1); omega⟩
set_option maxRecDepth 100000 in
theorem lc_Lo_add : LkC m_Lo_add 2 := ⟨lwG_in (List.mem_of_getElem? (i := 1013) rfl) rfl, lwG_in (List.mem_of_getElem? (i := 120) rfl) rfl, by decide +kernel, by decide +kernel, by decide +kernel⟩
def m_Lo_held : MM := (3, ⟨"FrostBox$Looks", "held", "(LFrostBox$House;I)J"⟩, prog_5_method_3_code, 7, some .long, 0, 0)
theorem ok_Lo_held : mOK m_Lo_held := ⟨by decide +kernel, by decide +kernel⟩
theorem dk_Lo_held (d : Nat) : dOK (d + 1) d m_Lo_held := ⟨Nat.le_refl _, by show 19 + 7 + 40 * d ≤ 40 * (d + 1); omega⟩
set_option maxRecDepth 100000 in
theorem lc_Lo_held : LkC m_Lo_held 2 := ⟨lwG_in (List.mem_of_getElem? (i := 1025) rfl) rfl, lwG_in (List.mem_of_getElem? (i := 120) rfl) rfl, by decide +kernel, by decide +kernel, by decide +kernel⟩
def m_Lo_likeliest : MM := (3, ⟨"FrostBox$Looks", "likeliest", "(LFrostBox$House;)I"⟩, prog_5_method_4_code, 4, some .int, 0, 0)
theorem ok_Lo_likeliest : mOK m_Lo_likeliest := ⟨by decide +kernel, by decide +kernel⟩
theorem dk_Lo_likeliest (d : Nat) : dOK (d + 1) d m_Lo_likeliest := ⟨Nat.le_refl _, by show 19 + 4 + 40 * d ≤ 40 * (d + 1); omega⟩
set_option maxRecDepth 100000 in
theorem lc_Lo_likeliest : LkC m_Lo_likeliest 1 := ⟨lwG_in (List.mem_of_getElem? (i := 1030) rfl) rfl, lwG_in (List.mem_of_getElem? (i := 120) rfl) rfl, by decide +kernel, by decide +kernel, by decide +kernel⟩
def m_Lo_sureOf : MM := (3, ⟨"FrostBox$Looks", "sureOf", "(LFrostBox$House;I)I"⟩, prog_5_method_5_code, 6, some .int, 0, 0)
theorem ok_Lo_sureOf : mOK m_Lo_sureOf := ⟨by decide +kernel, by decide +kernel⟩
theorem dk_Lo_sureOf (d : Nat) : dOK (d + 1) d m_Lo_sureOf := ⟨Nat.le_refl _, by show 19 + 6 + 40 * d ≤ 40 * (d + 1); omega⟩
set_option maxRecDepth 100000 in
theorem lc_Lo_sureOf : LkC m_Lo_sureOf 2 := ⟨lwG_in (List.mem_of_getElem? (i := 1034) rfl) rfl, lwG_in (List.mem_of_getElem? (i := 120) rfl) rfl, by decide +kernel, by decide +kernel, by decide +kernel⟩
def m_Lo_greatestAlike : MM := (3, ⟨"FrostBox$Looks", "greatestAlike", "(LFrostBox$House;I)J"⟩, prog_5_method_6_code, 10, some .long, 0, 0)
theorem ok_Lo_greatestAlike : mOK m_Lo_greatestAlike := ⟨by decide +kernel, by decide +kernel⟩
theorem dk_Lo_greatestAlike (d : Nat) : dOK (d + 1) d m_Lo_greatestAlike := ⟨Nat.le_refl _, by show 19 + 10 + 40 * d ≤ 40 * (d + 1); omega⟩
set_option maxRecDepth 100000 in
theorem lc_Lo_greatestAlike : LkC m_Lo_greatestAlike 2 := ⟨lwG_in (List.mem_of_getElem? (i := 1021) rfl) rfl, lwG_in (List.mem_of_getElem? (i := 120) rfl) rfl, by decide +kernel, by decide +kernel, by decide +kernel⟩
def m_Pa_add : MM := (5, ⟨"FrostBox$Past", "add", "(IIZ)V"⟩, prog_7_method_2_code, 4, none, 0, 0)
theorem ok_Pa_add : mOK m_Pa_add := ⟨by decide +kernel, by decide +kernel⟩
theorem dk_Pa_add (d : Nat) : dOK (d + 1) d m_Pa_add := ⟨Nat.le_refl _, by show 19 + 4 + 40 * d ≤ 40 * (d + 1); omega⟩
set_option maxRecDepth 100000 in
theorem lc_Pa_add : LkC m_Pa_add 3 := ⟨lwG_in (List.mem_of_getElem? (i := 1043) rfl) rfl, lwG_in (List.mem_of_getElem? (i := 121) rfl) rfl, by decide +kernel, by decide +kernel, by decide +kernel⟩
def m_Pa_startRows : MM := (5, ⟨"FrostBox$Past", "startRows", "(II)Z"⟩, prog_7_method_3_code, 8, some .boolean, 0, 0)
theorem ok_Pa_startRows : mOK m_Pa_startRows := ⟨by decide +kernel, by decide +kernel⟩
theorem dk_Pa_startRows (d : Nat) : dOK (d + 1) d m_Pa_startRows := ⟨Nat.le_refl _, by show 19 + 8 + 40 * d ≤ 40 * (d + 1); omega⟩
set_option maxRecDepth 100000 in
theorem lc_Pa_startRows : LkC m_Pa_startRows 2 := ⟨lwG_in (List.mem_of_getElem? (i := 1051) rfl) rfl, lwG_in (List.mem_of_getElem? (i := 121) rfl) rfl, by decide +kernel, by decide +kernel, by decide +kernel⟩
def m_Pa_nextRow : MM := (5, ⟨"FrostBox$Past", "nextRow", "()Z"⟩, prog_7_method_4_code, 5, some .boolean, 0, 0)
theorem ok_Pa_nextRow : mOK m_Pa_nextRow := ⟨by decide +kernel, by decide +kernel⟩
theorem dk_Pa_nextRow (d : Nat) : dOK (d + 1) d m_Pa_nextRow := ⟨Nat.le_refl _, by show 19 + 5 + 40 * d ≤ 40 * (d + 1); omega⟩
set_option maxRecDepth 100000 in
theorem lc_Pa_nextRow : LkC m_Pa_nextRow 0 := ⟨lwG_in (List.mem_of_getElem? (i := 1064) rfl) rfl, lwG_in (List.mem_of_getElem? (i := 121) rfl) rfl, by decide +kernel, by decide +kernel, by decide +kernel⟩
def m_Pa_swap : MM := (5, ⟨"FrostBox$Past", "swap", "(II)V"⟩, prog_7_method_5_code, 4, none, 0, 0)
theorem ok_Pa_swap : mOK m_Pa_swap := ⟨by decide +kernel, by decide +kernel⟩
theorem dk_Pa_swap (d : Nat) : dOK (d + 1) d m_Pa_swap := ⟨Nat.le_refl _, by show 19 + 4 + 40 * d ≤ 40 * (d + 1); omega⟩
set_option maxRecDepth 100000 in
theorem lc_Pa_swap : LkC m_Pa_swap 2 := ⟨lwG_in (List.mem_of_getElem? (i := 1068) rfl) rfl, lwG_in (List.mem_of_getElem? (i := 121) rfl) rfl, by decide +kernel, by decide +kernel, by decide +kernel⟩
def m_Pa_fitsAll : MM := (5, ⟨"FrostBox$Past", "fitsAll", "()Z"⟩, prog_7_method_6_code, 2, some .boolean, 0, 0)
theorem ok_Pa_fitsAll : mOK m_Pa_fitsAll := ⟨by decide +kernel, by decide +kernel⟩
theorem dk_Pa_fitsAll (d : Nat) : dOK (d + 1) d m_Pa_fitsAll := ⟨Nat.le_refl _, by show 19 + 2 + 40 * d ≤ 40 * (d + 1); omega⟩
set_option maxRecDepth 100000 in
theorem lc_Pa_fitsAll : LkC m_Pa_fitsAll 0 := ⟨lwG_in (List.mem_of_getElem? (i := 1056) rfl) rfl, lwG_in (List.mem_of_getElem? (i := 121) rfl) rfl, by decide +kernel, by decide +kernel, by decide +kernel⟩
def m_Pa_rowAsDigits : MM := (5, ⟨"FrostBox$Past", "rowAsDigits", "()I"⟩, prog_7_method_7_code, 3, some .int, 0, 0)
theorem ok_Pa_rowAsDigits : mOK m_Pa_rowAsDigits := ⟨by decide +kernel, by decide +kernel⟩
theorem dk_Pa_rowAsDigits (d : Nat) : dOK (d + 1) d m_Pa_rowAsDigits := ⟨Nat.le_refl _, by show 19 + 3 + 40 * d ≤ 40 * (d + 1); omega⟩
set_option maxRecDepth 100000 in
theorem lc_Pa_rowAsDigits : LkC m_Pa_rowAsDigits 0 := ⟨lwG_in (List.mem_of_getElem? (i := 1060) rfl) rfl, lwG_in (List.mem_of_getElem? (i := 121) rfl) rfl, by decide +kernel, by decide +kernel, by decide +kernel⟩
def m_Pa_keepRow : MM := (5, ⟨"FrostBox$Past", "keepRow", "()I"⟩, prog_7_method_8_code, 1, some .int, 0, 0)
theorem ok_Pa_keepRow : mOK m_Pa_keepRow := ⟨by decide +kernel, by decide +kernel⟩
theorem dk_Pa_keepRow (d : Nat) : dOK (d + 1) d m_Pa_keepRow := ⟨Nat.le_refl _, by show 19 + 1 + 40 * d ≤ 40 * (d + 1); omega⟩
set_option maxRecDepth 100000 in
theorem lc_Pa_keepRow : LkC m_Pa_keepRow 0 := ⟨lwG_in (List.mem_of_getElem? (i := 1076) rfl) rfl, lwG_in (List.mem_of_getElem? (i := 121) rfl) rfl, by decide +kernel, by decide +kernel, by decide +kernel⟩
def m_Pa_likeKept : MM := (5, ⟨"FrostBox$Past", "likeKept", "()I"⟩, prog_7_method_9_code, 3, some .int, 0, 0)
theorem ok_Pa_likeKept : mOK m_Pa_likeKept := ⟨by decide +kernel, by decide +kernel⟩
theorem dk_Pa_likeKept (d : Nat) : dOK (d + 1) d m_Pa_likeKept := ⟨Nat.le_refl _, by show 19 + 3 + 40 * d ≤ 40 * (d + 1); omega⟩
set_option maxRecDepth 100000 in
theorem lc_Pa_likeKept : LkC m_Pa_likeKept 0 := ⟨lwG_in (List.mem_of_getElem? (i := 1081) rfl) rfl, lwG_in (List.mem_of_getElem? (i := 121) rfl) rfl, by decide +kernel, by decide +kernel, by decide +kernel⟩
def m_Pl_readFrom : MM := (7, ⟨"FrostBox$Plan", "readFrom", "(LFrostBox$Tape;)Z"⟩, prog_9_method_2_code, 3, some .boolean, 0, 0)
theorem ok_Pl_readFrom : mOK m_Pl_readFrom := ⟨by decide +kernel, by decide +kernel⟩
theorem dk_Pl_readFrom (d : Nat) : dOK (d + 1) d m_Pl_readFrom := ⟨Nat.le_refl _, by show 19 + 3 + 40 * d ≤ 40 * (d + 1); omega⟩
set_option maxRecDepth 100000 in
theorem lc_Pl_readFrom : LkC m_Pl_readFrom 1 := ⟨lwG_in (List.mem_of_getElem? (i := 615) rfl) rfl, lwG_in (List.mem_of_getElem? (i := 123) rfl) rfl, by decide +kernel, by decide +kernel, by decide +kernel⟩
def m_Pl_readStep : MM := (7, ⟨"FrostBox$Plan", "readStep", "(LFrostBox$Tape;I)Z"⟩, prog_9_method_3_code, 3, some .boolean, 0, 0)
theorem ok_Pl_readStep : mOK m_Pl_readStep := ⟨by decide +kernel, by decide +kernel⟩
theorem dk_Pl_readStep (d : Nat) : dOK (d + 1) d m_Pl_readStep := ⟨Nat.le_refl _, by show 19 + 3 + 40 * d ≤ 40 * (d + 1); omega⟩
set_option maxRecDepth 100000 in
theorem lc_Pl_readStep : LkC m_Pl_readStep 2 := ⟨lwG_in (List.mem_of_getElem? (i := 620) rfl) rfl, lwG_in (List.mem_of_getElem? (i := 123) rfl) rfl, by decide +kernel, by decide +kernel, by decide +kernel⟩
def m_Pl_readSecondOfHours : MM := (7, ⟨"FrostBox$Plan", "readSecondOfHours", "(LFrostBox$Tape;I)Z"⟩, prog_9_method_4_code, 4, some .boolean, 0, 0)
theorem ok_Pl_readSecondOfHours : mOK m_Pl_readSecondOfHours := ⟨by decide +kernel, by decide +kernel⟩
theorem dk_Pl_readSecondOfHours (d : Nat) : dOK (d + 1) d m_Pl_readSecondOfHours := ⟨Nat.le_refl _, by show 19 + 4 + 40 * d ≤ 40 * (d + 1); omega⟩
set_option maxRecDepth 100000 in
theorem lc_Pl_readSecondOfHours : LkC m_Pl_readSecondOfHours 2 := ⟨lwG_in (List.mem_of_getElem? (i := 634) rfl) rfl, lwG_in (List.mem_of_getElem? (i := 123) rfl) rfl, by decide +kernel, by decide +kernel, by decide +kernel⟩
def m_Pl_readRestOfPut : MM := (7, ⟨"FrostBox$Plan", "readRestOfPut", "(LFrostBox$Tape;I)Z"⟩, prog_9_method_5_code, 3, some .boolean, 0, 0)
theorem ok_Pl_readRestOfPut : mOK m_Pl_readRestOfPut := ⟨by decide +kernel, by decide +kernel⟩
theorem dk_Pl_readRestOfPut (d : Nat) : dOK (d + 1) d m_Pl_readRestOfPut := ⟨Nat.le_refl _, by show 19 + 3 + 40 * d ≤ 40 * (d + 1); omega⟩
set_option maxRecDepth 100000 in
theorem lc_Pl_readRestOfPut : LkC m_Pl_readRestOfPut 2 := ⟨lwG_in (List.mem_of_getElem? (i := 638) rfl) rfl, lwG_in (List.mem_of_getElem? (i := 123) rfl) rfl, by decide +kernel, by decide +kernel, by decide +kernel⟩
def m_Pl_told : MM := (7, ⟨"FrostBox$Plan", "told", "(II)I"⟩, prog_9_method_6_code, 3, some .int, 0, 0)
theorem ok_Pl_told : mOK m_Pl_told := ⟨by decide +kernel, by decide +kernel⟩
theorem dk_Pl_told (d : Nat) : dOK (d + 1) d m_Pl_told := ⟨Nat.le_refl _, by show 19 + 3 + 40 * d ≤ 40 * (d + 1); omega⟩
set_option maxRecDepth 100000 in
theorem lc_Pl_told : LkC m_Pl_told 2 := ⟨lwG_in (List.mem_of_getElem? (i := 881) rfl) rfl, lwG_in (List.mem_of_getElem? (i := 123) rfl) rfl, by decide +kernel, by decide +kernel, by decide +kernel⟩
def m_Ho_readFrom : MM := (1, ⟨"FrostBox$House", "readFrom", "(LFrostBox$Tape;)Z"⟩, prog_3_method_2_code, 3, some .boolean, 0, 0)
theorem ok_Ho_readFrom : mOK m_Ho_readFrom := ⟨by decide +kernel, by decide +kernel⟩
theorem dk_Ho_readFrom (d : Nat) : dOK (d + 1) d m_Ho_readFrom := ⟨Nat.le_refl _, by show 19 + 3 + 40 * d ≤ 40 * (d + 1); omega⟩
set_option maxRecDepth 100000 in
theorem lc_Ho_readFrom : LkC m_Ho_readFrom 1 := ⟨lwG_in (List.mem_of_getElem? (i := 478) rfl) rfl, lwG_in (List.mem_of_getElem? (i := 115) rfl) rfl, by decide +kernel, by decide +kernel, by decide +kernel⟩
def m_Ho_readClause : MM := (1, ⟨"FrostBox$House", "readClause", "(LFrostBox$Tape;)Z"⟩, prog_3_method_3_code, 3, some .boolean, 0, 0)
theorem ok_Ho_readClause : mOK m_Ho_readClause := ⟨by decide +kernel, by decide +kernel⟩
theorem dk_Ho_readClause (d : Nat) : dOK (d + 1) d m_Ho_readClause := ⟨Nat.le_refl _, by show 19 + 3 + 40 * d ≤ 40 * (d + 1); omega⟩
set_option maxRecDepth 100000 in
theorem lc_Ho_readClause : LkC m_Ho_readClause 1 := ⟨lwG_in (List.mem_of_getElem? (i := 493) rfl) rfl, lwG_in (List.mem_of_getElem? (i := 115) rfl) rfl, by decide +kernel, by decide +kernel, by decide +kernel⟩
def m_Ho_readItems : MM := (1, ⟨"FrostBox$House", "readItems", "(LFrostBox$Tape;[C[I[I[I)Z"⟩, prog_3_method_4_code, 10, some .boolean, 0, 0)
theorem ok_Ho_readItems : mOK m_Ho_readItems := ⟨by decide +kernel, by decide +kernel⟩
theorem dk_Ho_readItems (d : Nat) : dOK (d + 1) d m_Ho_readItems := ⟨Nat.le_refl _, by show 19 + 10 + 40 * d ≤ 40 * (d + 1); omega⟩
set_option maxRecDepth 100000 in
theorem lc_Ho_readItems : LkC m_Ho_readItems 5 := ⟨lwG_in (List.mem_of_getElem? (i := 511) rfl) rfl, lwG_in (List.mem_of_getElem? (i := 115) rfl) rfl, by decide +kernel, by decide +kernel, by decide +kernel⟩
def m_Ho_isWhole : MM := (1, ⟨"FrostBox$House", "isWhole", "()Z"⟩, prog_3_method_5_code, 4, some .boolean, 0, 0)
theorem ok_Ho_isWhole : mOK m_Ho_isWhole := ⟨by decide +kernel, by decide +kernel⟩
theorem dk_Ho_isWhole (d : Nat) : dOK (d + 1) d m_Ho_isWhole := ⟨Nat.le_refl _, by show 19 + 4 + 40 * d ≤ 40 * (d + 1); omega⟩
set_option maxRecDepth 100000 in
theorem lc_Ho_isWhole : LkC m_Ho_isWhole 0 := ⟨lwG_in (List.mem_of_getElem? (i := 551) rfl) rfl, lwG_in (List.mem_of_getElem? (i := 115) rfl) rfl, by decide +kernel, by decide +kernel, by decide +kernel⟩
def m_Ho_kindsWith : MM := (1, ⟨"FrostBox$House", "kindsWith", "(I)I"⟩, prog_3_method_6_code, 4, some .int, 0, 0)
theorem ok_Ho_kindsWith : mOK m_Ho_kindsWith := ⟨by decide +kernel, by decide +kernel⟩
theorem dk_Ho_kindsWith (d : Nat) : dOK (d + 1) d m_Ho_kindsWith := ⟨Nat.le_refl _, by show 19 + 4 + 40 * d ≤ 40 * (d + 1); omega⟩
set_option maxRecDepth 100000 in
theorem lc_Ho_kindsWith : LkC m_Ho_kindsWith 1 := ⟨lwG_in (List.mem_of_getElem? (i := 921) rfl) rfl, lwG_in (List.mem_of_getElem? (i := 115) rfl) rfl, by decide +kernel, by decide +kernel, by decide +kernel⟩
def m_Ho_portionsThatWeigh : MM := (1, ⟨"FrostBox$House", "portionsThatWeigh", "(II)I"⟩, prog_3_method_7_code, 5, some .int, 0, 0)
theorem ok_Ho_portionsThatWeigh : mOK m_Ho_portionsThatWeigh := ⟨by decide +kernel, by decide +kernel⟩
theorem dk_Ho_portionsThatWeigh (d : Nat) : dOK (d + 1) d m_Ho_portionsThatWeigh := ⟨Nat.le_refl _, by show 19 + 5 + 40 * d ≤ 40 * (d + 1); omega⟩
set_option maxRecDepth 100000 in
theorem lc_Ho_portionsThatWeigh : LkC m_Ho_portionsThatWeigh 2 := ⟨lwG_in (List.mem_of_getElem? (i := 987) rfl) rfl, lwG_in (List.mem_of_getElem? (i := 115) rfl) rfl, by decide +kernel, by decide +kernel, by decide +kernel⟩
def m_La_readFrom : MM := (2, ⟨"FrostBox$Law", "readFrom", "(LFrostBox$Tape;)Z"⟩, prog_4_method_2_code, 3, some .boolean, 0, 0)
theorem ok_La_readFrom : mOK m_La_readFrom := ⟨by decide +kernel, by decide +kernel⟩
theorem dk_La_readFrom (d : Nat) : dOK (d + 1) d m_La_readFrom := ⟨Nat.le_refl _, by show 19 + 3 + 40 * d ≤ 40 * (d + 1); omega⟩
set_option maxRecDepth 100000 in
theorem lc_La_readFrom : LkC m_La_readFrom 1 := ⟨lwG_in (List.mem_of_getElem? (i := 565) rfl) rfl, lwG_in (List.mem_of_getElem? (i := 122) rfl) rfl, by decide +kernel, by decide +kernel, by decide +kernel⟩
def m_La_add : MM := (2, ⟨"FrostBox$Law", "add", "(I)V"⟩, prog_4_method_3_code, 2, none, 0, 0)
theorem ok_La_add : mOK m_La_add := ⟨by decide +kernel, by decide +kernel⟩
theorem dk_La_add (d : Nat) : dOK (d + 1) d m_La_add := ⟨Nat.le_refl _, by show 19 + 2 + 40 * d ≤ 40 * (d + 1); omega⟩
set_option maxRecDepth 100000 in
theorem lc_La_add : LkC m_La_add 1 := ⟨lwG_in (List.mem_of_getElem? (i := 591) rfl) rfl, lwG_in (List.mem_of_getElem? (i := 122) rfl) rfl, by decide +kernel, by decide +kernel, by decide +kernel⟩
def m_La_readClause : MM := (2, ⟨"FrostBox$Law", "readClause", "(LFrostBox$Tape;)Z"⟩, prog_4_method_4_code, 5, some .boolean, 0, 0)
theorem ok_La_readClause : mOK m_La_readClause := ⟨by decide +kernel, by decide +kernel⟩
theorem dk_La_readClause (d : Nat) : dOK (d + 1) d m_La_readClause := ⟨Nat.le_refl _, by show 19 + 5 + 40 * d ≤ 40 * (d + 1); omega⟩
set_option maxRecDepth 100000 in
theorem lc_La_readClause : LkC m_La_readClause 1 := ⟨lwG_in (List.mem_of_getElem? (i := 570) rfl) rfl, lwG_in (List.mem_of_getElem? (i := 122) rfl) rfl, by decide +kernel, by decide +kernel, by decide +kernel⟩
def m_La_readCondition : MM := (2, ⟨"FrostBox$Law", "readCondition", "(LFrostBox$Tape;I)Z"⟩, prog_4_method_5_code, 4, some .boolean, 0, 0)
theorem ok_La_readCondition : mOK m_La_readCondition := ⟨by decide +kernel, by decide +kernel⟩
theorem dk_La_readCondition (d : Nat) : dOK (d + 1) d m_La_readCondition := ⟨Nat.le_refl _, by show 19 + 4 + 40 * d ≤ 40 * (d + 1); omega⟩
set_option maxRecDepth 100000 in
theorem lc_La_readCondition : LkC m_La_readCondition 2 := ⟨lwG_in (List.mem_of_getElem? (i := 599) rfl) rfl, lwG_in (List.mem_of_getElem? (i := 122) rfl) rfl, by decide +kernel, by decide +kernel, by decide +kernel⟩
def m_La_readTruth : MM := (2, ⟨"FrostBox$Law", "readTruth", "(LFrostBox$Tape;I)Z"⟩, prog_4_method_6_code, 4, some .boolean, 0, 0)
theorem ok_La_readTruth : mOK m_La_readTruth := ⟨by decide +kernel, by decide +kernel⟩
theorem dk_La_readTruth (d : Nat) : dOK (d + 1) d m_La_readTruth := ⟨Nat.le_refl _, by show 19 + 4 + 40 * d ≤ 40 * (d + 1); omega⟩
set_option maxRecDepth 100000 in
theorem lc_La_readTruth : LkC m_La_readTruth 2 := ⟨lwG_in (List.mem_of_getElem? (i := 603) rfl) rfl, lwG_in (List.mem_of_getElem? (i := 122) rfl) rfl, by decide +kernel, by decide +kernel, by decide +kernel⟩
def m_La_readUnit : MM := (2, ⟨"FrostBox$Law", "readUnit", "(LFrostBox$Tape;I)Z"⟩, prog_4_method_7_code, 4, some .boolean, 0, 0)
theorem ok_La_readUnit : mOK m_La_readUnit := ⟨by decide +kernel, by decide +kernel⟩
theorem dk_La_readUnit (d : Nat) : dOK (d + 1) d m_La_readUnit := ⟨Nat.le_refl _, by show 19 + 4 + 40 * d ≤ 40 * (d + 1); omega⟩
set_option maxRecDepth 100000 in
theorem lc_La_readUnit : LkC m_La_readUnit 2 := ⟨lwG_in (List.mem_of_getElem? (i := 607) rfl) rfl, lwG_in (List.mem_of_getElem? (i := 122) rfl) rfl, by decide +kernel, by decide +kernel, by decide +kernel⟩
def m_La_readNested : MM := (2, ⟨"FrostBox$Law", "readNested", "(LFrostBox$Tape;II)Z"⟩, prog_4_method_8_code, 4, some .boolean, 0, 0)
theorem ok_La_readNested : mOK m_La_readNested := ⟨by decide +kernel, by decide +kernel⟩
theorem dk_La_readNested (d : Nat) : dOK (d + 1) d m_La_readNested := ⟨Nat.le_refl _, by show 19 + 4 + 40 * d ≤ 40 * (d + 1); omega⟩
set_option maxRecDepth 100000 in
theorem lc_La_readNested : LkC m_La_readNested 3 := ⟨lwG_in (List.mem_of_getElem? (i := 611) rfl) rfl, lwG_in (List.mem_of_getElem? (i := 122) rfl) rfl, by decide +kernel, by decide +kernel, by decide +kernel⟩
def m_La_isComparison : MM := (2, ⟨"FrostBox$Law", "isComparison", "(I)Z"⟩, prog_4_method_9_code, 1, some .boolean, 0, 0)
theorem ok_La_isComparison : mOK m_La_isComparison := ⟨by decide +kernel, by decide +kernel⟩
theorem dk_La_isComparison (d : Nat) : dOK (d + 1) d m_La_isComparison := ⟨Nat.le_refl _, by show 19 + 1 + 40 * d ≤ 40 * (d + 1); omega⟩
set_option maxRecDepth 100000 in
theorem lc_La_isComparison : LkC m_La_isComparison 1 := ⟨lwG_in (List.mem_of_getElem? (i := 595) rfl) rfl, lwG_in (List.mem_of_getElem? (i := 122) rfl) rfl, by decide +kernel, by decide +kernel, by decide +kernel⟩
def m_La_readSum : MM := (2, ⟨"FrostBox$Law", "readSum", "(LFrostBox$Tape;I)Z"⟩, prog_4_method_10_code, 5, some .boolean, 0, 0)
theorem ok_La_readSum : mOK m_La_readSum := ⟨by decide +kernel, by decide +kernel⟩
theorem dk_La_readSum (d : Nat) : dOK (d + 1) d m_La_readSum := ⟨Nat.le_refl _, by show 19 + 5 + 40 * d ≤ 40 * (d + 1); omega⟩
set_option maxRecDepth 100000 in
theorem lc_La_readSum : LkC m_La_readSum 2 := ⟨lwG_in (List.mem_of_getElem? (i := 576) rfl) rfl, lwG_in (List.mem_of_getElem? (i := 122) rfl) rfl, by decide +kernel, by decide +kernel, by decide +kernel⟩
def m_La_readTerm : MM := (2, ⟨"FrostBox$Law", "readTerm", "(LFrostBox$Tape;I)Z"⟩, prog_4_method_11_code, 5, some .boolean, 0, 0)
theorem ok_La_readTerm : mOK m_La_readTerm := ⟨by decide +kernel, by decide +kernel⟩
theorem dk_La_readTerm (d : Nat) : dOK (d + 1) d m_La_readTerm := ⟨Nat.le_refl _, by show 19 + 5 + 40 * d ≤ 40 * (d + 1); omega⟩
set_option maxRecDepth 100000 in
theorem lc_La_readTerm : LkC m_La_readTerm 2 := ⟨lwG_in (List.mem_of_getElem? (i := 580) rfl) rfl, lwG_in (List.mem_of_getElem? (i := 122) rfl) rfl, by decide +kernel, by decide +kernel, by decide +kernel⟩
def m_La_readAtom : MM := (2, ⟨"FrostBox$Law", "readAtom", "(LFrostBox$Tape;I)Z"⟩, prog_4_method_12_code, 6, some .boolean, 0, 0)
theorem ok_La_readAtom : mOK m_La_readAtom := ⟨by decide +kernel, by decide +kernel⟩
theorem dk_La_readAtom (d : Nat) : dOK (d + 1) d m_La_readAtom := ⟨Nat.le_refl _, by show 19 + 6 + 40 * d ≤ 40 * (d + 1); omega⟩
set_option maxRecDepth 100000 in
theorem lc_La_readAtom : LkC m_La_readAtom 2 := ⟨lwG_in (List.mem_of_getElem? (i := 584) rfl) rfl, lwG_in (List.mem_of_getElem? (i := 122) rfl) rfl, by decide +kernel, by decide +kernel, by decide +kernel⟩
def m_La_worth : MM := (2, ⟨"FrostBox$Law", "worth", "(IIIIII)I"⟩, prog_4_method_13_code, 11, some .int, 0, 0)
theorem ok_La_worth : mOK m_La_worth := ⟨by decide +kernel, by decide +kernel⟩
theorem dk_La_worth (d : Nat) : dOK (d + 1) d m_La_worth := ⟨Nat.le_refl _, by show 19 + 11 + 40 * d ≤ 40 * (d + 1); omega⟩
set_option maxRecDepth 100000 in
theorem lc_La_worth : LkC m_La_worth 6 := ⟨lwG_in (List.mem_of_getElem? (i := 736) rfl) rfl, lwG_in (List.mem_of_getElem? (i := 122) rfl) rfl, by decide +kernel, by decide +kernel, by decide +kernel⟩
def m_La_joined : MM := (2, ⟨"FrostBox$Law", "joined", "(III)I"⟩, prog_4_method_14_code, 5, some .int, 0, 0)
theorem ok_La_joined : mOK m_La_joined := ⟨by decide +kernel, by decide +kernel⟩
theorem dk_La_joined (d : Nat) : dOK (d + 1) d m_La_joined := ⟨Nat.le_refl _, by show 19 + 5 + 40 * d ≤ 40 * (d + 1); omega⟩
set_option maxRecDepth 100000 in
theorem lc_La_joined : LkC m_La_joined 3 := ⟨lwG_in (List.mem_of_getElem? (i := 739) rfl) rfl, lwG_in (List.mem_of_getElem? (i := 122) rfl) rfl, by decide +kernel, by decide +kernel, by decide +kernel⟩
def m_FB_feed : MM := (10, ⟨"FrostBox", "feed", "(IIIII)I"⟩, prog_1_method_2_code, 7, some .int, 0, 0)
theorem ok_FB_feed : mOK m_FB_feed := ⟨by decide +kernel, by decide +kernel⟩
theorem dk_FB_feed (d : Nat) : dOK (d + 1) d m_FB_feed := ⟨Nat.le_refl _, by show 19 + 7 + 40 * d ≤ 40 * (d + 1); omega⟩
set_option maxRecDepth 100000 in
theorem lc_FB_feed : LkC m_FB_feed 5 := ⟨lwG_in (List.mem_of_getElem? (i := 455) rfl) rfl, lwG_in (List.mem_of_getElem? (i := 113) rfl) rfl, by decide +kernel, by decide +kernel, by decide +kernel⟩
def m_FB_end : MM := (10, ⟨"FrostBox", "end", "(I)Z"⟩, prog_1_method_3_code, 2, some .boolean, 0, 0)
theorem ok_FB_end : mOK m_FB_end := ⟨by decide +kernel, by decide +kernel⟩
theorem dk_FB_end (d : Nat) : dOK (d + 1) d m_FB_end := ⟨Nat.le_refl _, by show 19 + 2 + 40 * d ≤ 40 * (d + 1); omega⟩
set_option maxRecDepth 100000 in
theorem lc_FB_end : LkC m_FB_end 1 := ⟨lwG_in (List.mem_of_getElem? (i := 466) rfl) rfl, lwG_in (List.mem_of_getElem? (i := 113) rfl) rfl, by decide +kernel, by decide +kernel, by decide +kernel⟩
def m_FB_fault : MM := (10, ⟨"FrostBox", "fault", "(I)I"⟩, prog_1_method_4_code, 2, some .int, 0, 0)
theorem ok_FB_fault : mOK m_FB_fault := ⟨by decide +kernel, by decide +kernel⟩
theorem dk_FB_fault (d : Nat) : dOK (d + 1) d m_FB_fault := ⟨Nat.le_refl _, by show 19 + 2 + 40 * d ≤ 40 * (d + 1); omega⟩
set_option maxRecDepth 100000 in
theorem lc_FB_fault : LkC m_FB_fault 1 := ⟨lwG_in (List.mem_of_getElem? (i := 470) rfl) rfl, lwG_in (List.mem_of_getElem? (i := 113) rfl) rfl, by decide +kernel, by decide +kernel, by decide +kernel⟩
def m_FB_text : MM := (10, ⟨"FrostBox", "text", "(I)I"⟩, prog_1_method_5_code, 2, some .int, 0, 0)
theorem ok_FB_text : mOK m_FB_text := ⟨by decide +kernel, by decide +kernel⟩
theorem dk_FB_text (d : Nat) : dOK (d + 1) d m_FB_text := ⟨Nat.le_refl _, by show 19 + 2 + 40 * d ≤ 40 * (d + 1); omega⟩
set_option maxRecDepth 100000 in
theorem lc_FB_text : LkC m_FB_text 1 := ⟨lwG_in (List.mem_of_getElem? (i := 644) rfl) rfl, lwG_in (List.mem_of_getElem? (i := 113) rfl) rfl, by decide +kernel, by decide +kernel, by decide +kernel⟩
def m_FB_readsAs : MM := (10, ⟨"FrostBox", "readsAs", "(I)Z"⟩, prog_1_method_6_code, 2, some .boolean, 0, 0)
theorem ok_FB_readsAs : mOK m_FB_readsAs := ⟨by decide +kernel, by decide +kernel⟩
theorem dk_FB_readsAs (d : Nat) : dOK (d + 1) d m_FB_readsAs := ⟨Nat.le_refl _, by show 19 + 2 + 40 * d ≤ 40 * (d + 1); omega⟩
set_option maxRecDepth 100000 in
theorem lc_FB_readsAs : LkC m_FB_readsAs 1 := ⟨lwG_in (List.mem_of_getElem? (i := 474) rfl) rfl, lwG_in (List.mem_of_getElem? (i := 113) rfl) rfl, by decide +kernel, by decide +kernel, by decide +kernel⟩
def m_FB_tellHouse : MM := (10, ⟨"FrostBox", "tellHouse", "()I"⟩, prog_1_method_7_code, 2, some .int, 0, 0)
theorem ok_FB_tellHouse : mOK m_FB_tellHouse := ⟨by decide +kernel, by decide +kernel⟩
theorem dk_FB_tellHouse (d : Nat) : dOK (d + 1) d m_FB_tellHouse := ⟨Nat.le_refl _, by show 19 + 2 + 40 * d ≤ 40 * (d + 1); omega⟩
set_option maxRecDepth 100000 in
theorem lc_FB_tellHouse : LkC m_FB_tellHouse 0 := ⟨lwG_in (List.mem_of_getElem? (i := 656) rfl) rfl, lwG_in (List.mem_of_getElem? (i := 113) rfl) rfl, by decide +kernel, by decide +kernel, by decide +kernel⟩
def m_FB_tellLaw : MM := (10, ⟨"FrostBox", "tellLaw", "()I"⟩, prog_1_method_8_code, 1, some .int, 0, 0)
theorem ok_FB_tellLaw : mOK m_FB_tellLaw := ⟨by decide +kernel, by decide +kernel⟩
theorem dk_FB_tellLaw (d : Nat) : dOK (d + 1) d m_FB_tellLaw := ⟨Nat.le_refl _, by show 19 + 1 + 40 * d ≤ 40 * (d + 1); omega⟩
set_option maxRecDepth 100000 in
theorem lc_FB_tellLaw : LkC m_FB_tellLaw 0 := ⟨lwG_in (List.mem_of_getElem? (i := 648) rfl) rfl, lwG_in (List.mem_of_getElem? (i := 113) rfl) rfl, by decide +kernel, by decide +kernel, by decide +kernel⟩
def m_FB_tellPlan : MM := (10, ⟨"FrostBox", "tellPlan", "()I"⟩, prog_1_method_9_code, 1, some .int, 0, 0)
theorem ok_FB_tellPlan : mOK m_FB_tellPlan := ⟨by decide +kernel, by decide +kernel⟩
theorem dk_FB_tellPlan (d : Nat) : dOK (d + 1) d m_FB_tellPlan := ⟨Nat.le_refl _, by show 19 + 1 + 40 * d ≤ 40 * (d + 1); omega⟩
set_option maxRecDepth 100000 in
theorem lc_FB_tellPlan : LkC m_FB_tellPlan 0 := ⟨lwG_in (List.mem_of_getElem? (i := 652) rfl) rfl, lwG_in (List.mem_of_getElem? (i := 113) rfl) rfl, by decide +kernel, by decide +kernel, by decide +kernel⟩
def m_FB_hasHouse : MM := (10, ⟨"FrostBox", "hasHouse", "()Z"⟩, prog_1_method_10_code, 1, some .boolean, 0, 0)
theorem ok_FB_hasHouse : mOK m_FB_hasHouse := ⟨by decide +kernel, by decide +kernel⟩
theorem dk_FB_hasHouse (d : Nat) : dOK (d + 1) d m_FB_hasHouse := ⟨Nat.le_refl _, by show 19 + 1 + 40 * d ≤ 40 * (d + 1); omega⟩
set_option maxRecDepth 100000 in
theorem lc_FB_hasHouse : LkC m_FB_hasHouse 0 := ⟨lwG_in (List.mem_of_getElem? (i := 669) rfl) rfl, lwG_in (List.mem_of_getElem? (i := 113) rfl) rfl, by decide +kernel, by decide +kernel, by decide +kernel⟩
def m_FB_isKind : MM := (10, ⟨"FrostBox", "isKind", "(I)Z"⟩, prog_1_method_11_code, 2, some .boolean, 0, 0)
theorem ok_FB_isKind : mOK m_FB_isKind := ⟨by decide +kernel, by decide +kernel⟩
theorem dk_FB_isKind (d : Nat) : dOK (d + 1) d m_FB_isKind := ⟨Nat.le_refl _, by show 19 + 2 + 40 * d ≤ 40 * (d + 1); omega⟩
set_option maxRecDepth 100000 in
theorem lc_FB_isKind : LkC m_FB_isKind 1 := ⟨lwG_in (List.mem_of_getElem? (i := 677) rfl) rfl, lwG_in (List.mem_of_getElem? (i := 113) rfl) rfl, by decide +kernel, by decide +kernel, by decide +kernel⟩
def m_FB_rule : MM := (10, ⟨"FrostBox", "rule", "(I)I"⟩, prog_1_method_12_code, 2, some .int, 0, 0)
theorem ok_FB_rule : mOK m_FB_rule := ⟨by decide +kernel, by decide +kernel⟩
theorem dk_FB_rule (d : Nat) : dOK (d + 1) d m_FB_rule := ⟨Nat.le_refl _, by show 19 + 2 + 40 * d ≤ 40 * (d + 1); omega⟩
set_option maxRecDepth 100000 in
theorem lc_FB_rule : LkC m_FB_rule 1 := ⟨lwG_in (List.mem_of_getElem? (i := 665) rfl) rfl, lwG_in (List.mem_of_getElem? (i := 113) rfl) rfl, by decide +kernel, by decide +kernel, by decide +kernel⟩
def m_FB_kind : MM := (10, ⟨"FrostBox", "kind", "(II)I"⟩, prog_1_method_13_code, 4, some .int, 0, 0)
theorem ok_FB_kind : mOK m_FB_kind := ⟨by decide +kernel, by decide +kernel⟩
theorem dk_FB_kind (d : Nat) : dOK (d + 1) d m_FB_kind := ⟨Nat.le_refl _, by show 19 + 4 + 40 * d ≤ 40 * (d + 1); omega⟩
set_option maxRecDepth 100000 in
theorem lc_FB_kind : LkC m_FB_kind 2 := ⟨lwG_in (List.mem_of_getElem? (i := 673) rfl) rfl, lwG_in (List.mem_of_getElem? (i := 113) rfl) rfl, by decide +kernel, by decide +kernel, by decide +kernel⟩
def m_FB_law : MM := (10, ⟨"FrostBox", "law", "(I)Z"⟩, prog_1_method_15_code, 2, some .boolean, 0, 0)
theorem ok_FB_law : mOK m_FB_law := ⟨by decide +kernel, by decide +kernel⟩
theorem dk_FB_law (d : Nat) : dOK (d + 1) d m_FB_law := ⟨Nat.le_refl _, by show 19 + 2 + 40 * d ≤ 40 * (d + 1); omega⟩
set_option maxRecDepth 100000 in
theorem lc_FB_law : LkC m_FB_law 1 := ⟨lwG_in (List.mem_of_getElem? (i := 681) rfl) rfl, lwG_in (List.mem_of_getElem? (i := 113) rfl) rfl, by decide +kernel, by decide +kernel, by decide +kernel⟩
def m_FB_habit : MM := (10, ⟨"FrostBox", "habit", "(I)Z"⟩, prog_1_method_16_code, 2, some .boolean, 0, 0)
theorem ok_FB_habit : mOK m_FB_habit := ⟨by decide +kernel, by decide +kernel⟩
theorem dk_FB_habit (d : Nat) : dOK (d + 1) d m_FB_habit := ⟨Nat.le_refl _, by show 19 + 2 + 40 * d ≤ 40 * (d + 1); omega⟩
set_option maxRecDepth 100000 in
theorem lc_FB_habit : LkC m_FB_habit 1 := ⟨lwG_in (List.mem_of_getElem? (i := 685) rfl) rfl, lwG_in (List.mem_of_getElem? (i := 113) rfl) rfl, by decide +kernel, by decide +kernel, by decide +kernel⟩
def m_FB_portionWorth : MM := (10, ⟨"FrostBox", "portionWorth", "(LFrostBox$Pile;IIII)I"⟩, prog_1_method_17_code, 10, some .int, 0, 0)
theorem ok_FB_portionWorth : mOK m_FB_portionWorth := ⟨by decide +kernel, by decide +kernel⟩
theorem dk_FB_portionWorth (d : Nat) : dOK (d + 1) d m_FB_portionWorth := ⟨Nat.le_refl _, by show 19 + 10 + 40 * d ≤ 40 * (d + 1); omega⟩
set_option maxRecDepth 100000 in
theorem lc_FB_portionWorth : LkC m_FB_portionWorth 5 := ⟨lwG_in (List.mem_of_getElem? (i := 731) rfl) rfl, lwG_in (List.mem_of_getElem? (i := 113) rfl) rfl, by decide +kernel, by decide +kernel, by decide +kernel⟩
def m_FB_valueThen : MM := (10, ⟨"FrostBox", "valueThen", "(LFrostBox$Pile;IIII)I"⟩, prog_1_method_18_code, 6, some .int, 0, 0)
theorem ok_FB_valueThen : mOK m_FB_valueThen := ⟨by decide +kernel, by decide +kernel⟩
theorem dk_FB_valueThen (d : Nat) : dOK (d + 1) d m_FB_valueThen := ⟨Nat.le_refl _, by show 19 + 6 + 40 * d ≤ 40 * (d + 1); omega⟩
set_option maxRecDepth 100000 in
theorem lc_FB_valueThen : LkC m_FB_valueThen 5 := ⟨lwG_in (List.mem_of_getElem? (i := 941) rfl) rfl, lwG_in (List.mem_of_getElem? (i := 113) rfl) rfl, by decide +kernel, by decide +kernel, by decide +kernel⟩
def m_FB_valueOf : MM := (10, ⟨"FrostBox", "valueOf", "(LFrostBox$Pile;I)I"⟩, prog_1_method_19_code, 3, some .int, 0, 0)
theorem ok_FB_valueOf : mOK m_FB_valueOf := ⟨by decide +kernel, by decide +kernel⟩
theorem dk_FB_valueOf (d : Nat) : dOK (d + 1) d m_FB_valueOf := ⟨Nat.le_refl _, by show 19 + 3 + 40 * d ≤ 40 * (d + 1); omega⟩
set_option maxRecDepth 100000 in
theorem lc_FB_valueOf : LkC m_FB_valueOf 2 := ⟨lwG_in (List.mem_of_getElem? (i := 727) rfl) rfl, lwG_in (List.mem_of_getElem? (i := 113) rfl) rfl, by decide +kernel, by decide +kernel, by decide +kernel⟩
def m_FB_valueOfAll : MM := (10, ⟨"FrostBox", "valueOfAll", "(II)I"⟩, prog_1_method_20_code, 5, some .int, 0, 0)
theorem ok_FB_valueOfAll : mOK m_FB_valueOfAll := ⟨by decide +kernel, by decide +kernel⟩
theorem dk_FB_valueOfAll (d : Nat) : dOK (d + 1) d m_FB_valueOfAll := ⟨Nat.le_refl _, by show 19 + 5 + 40 * d ≤ 40 * (d + 1); omega⟩
set_option maxRecDepth 100000 in
theorem lc_FB_valueOfAll : LkC m_FB_valueOfAll 2 := ⟨lwG_in (List.mem_of_getElem? (i := 967) rfl) rfl, lwG_in (List.mem_of_getElem? (i := 113) rfl) rfl, by decide +kernel, by decide +kernel, by decide +kernel⟩
def m_FB_fillValues : MM := (10, ⟨"FrostBox", "fillValues", "()V"⟩, prog_1_method_21_code, 2, none, 0, 0)
theorem ok_FB_fillValues : mOK m_FB_fillValues := ⟨by decide +kernel, by decide +kernel⟩
theorem dk_FB_fillValues (d : Nat) : dOK (d + 1) d m_FB_fillValues := ⟨Nat.le_refl _, by show 19 + 2 + 40 * d ≤ 40 * (d + 1); omega⟩
set_option maxRecDepth 100000 in
theorem lc_FB_fillValues : LkC m_FB_fillValues 0 := ⟨lwG_in (List.mem_of_getElem? (i := 909) rfl) rfl, lwG_in (List.mem_of_getElem? (i := 113) rfl) rfl, by decide +kernel, by decide +kernel, by decide +kernel⟩
def m_FB_weightOf : MM := (10, ⟨"FrostBox", "weightOf", "(I)I"⟩, prog_1_method_22_code, 2, some .int, 0, 0)
theorem ok_FB_weightOf : mOK m_FB_weightOf := ⟨by decide +kernel, by decide +kernel⟩
theorem dk_FB_weightOf (d : Nat) : dOK (d + 1) d m_FB_weightOf := ⟨Nat.le_refl _, by show 19 + 2 + 40 * d ≤ 40 * (d + 1); omega⟩
set_option maxRecDepth 100000 in
theorem lc_FB_weightOf : LkC m_FB_weightOf 1 := ⟨lwG_in (List.mem_of_getElem? (i := 983) rfl) rfl, lwG_in (List.mem_of_getElem? (i := 113) rfl) rfl, by decide +kernel, by decide +kernel, by decide +kernel⟩
def m_FB_canPut : MM := (10, ⟨"FrostBox", "canPut", "(LFrostBox$Pile;II)Z"⟩, prog_1_method_23_code, 4, some .boolean, 0, 0)
theorem ok_FB_canPut : mOK m_FB_canPut := ⟨by decide +kernel, by decide +kernel⟩
theorem dk_FB_canPut (d : Nat) : dOK (d + 1) d m_FB_canPut := ⟨Nat.le_refl _, by show 19 + 4 + 40 * d ≤ 40 * (d + 1); omega⟩
set_option maxRecDepth 100000 in
theorem lc_FB_canPut : LkC m_FB_canPut 3 := ⟨lwG_in (List.mem_of_getElem? (i := 693) rfl) rfl, lwG_in (List.mem_of_getElem? (i := 113) rfl) rfl, by decide +kernel, by decide +kernel, by decide +kernel⟩
def m_FB_borneHours : MM := (10, ⟨"FrostBox", "borneHours", "(I)I"⟩, prog_1_method_24_code, 3, some .int, 0, 0)
theorem ok_FB_borneHours : mOK m_FB_borneHours := ⟨by decide +kernel, by decide +kernel⟩
theorem dk_FB_borneHours (d : Nat) : dOK (d + 1) d m_FB_borneHours := ⟨Nat.le_refl _, by show 19 + 3 + 40 * d ≤ 40 * (d + 1); omega⟩
set_option maxRecDepth 100000 in
theorem lc_FB_borneHours : LkC m_FB_borneHours 1 := ⟨lwG_in (List.mem_of_getElem? (i := 808) rfl) rfl, lwG_in (List.mem_of_getElem? (i := 113) rfl) rfl, by decide +kernel, by decide +kernel, by decide +kernel⟩
def m_FB_hoursTooMany : MM := (10, ⟨"FrostBox", "hoursTooMany", "(LFrostBox$Pile;I)I"⟩, prog_1_method_25_code, 3, some .int, 0, 0)
theorem ok_FB_hoursTooMany : mOK m_FB_hoursTooMany := ⟨by decide +kernel, by decide +kernel⟩
theorem dk_FB_hoursTooMany (d : Nat) : dOK (d + 1) d m_FB_hoursTooMany := ⟨Nat.le_refl _, by show 19 + 3 + 40 * d ≤ 40 * (d + 1); omega⟩
set_option maxRecDepth 100000 in
theorem lc_FB_hoursTooMany : LkC m_FB_hoursTooMany 2 := ⟨lwG_in (List.mem_of_getElem? (i := 804) rfl) rfl, lwG_in (List.mem_of_getElem? (i := 113) rfl) rfl, by decide +kernel, by decide +kernel, by decide +kernel⟩
def m_FB_eatBox : MM := (10, ⟨"FrostBox", "eatBox", "(I)I"⟩, prog_1_method_26_code, 3, some .int, 0, 0)
theorem ok_FB_eatBox : mOK m_FB_eatBox := ⟨by decide +kernel, by decide +kernel⟩
theorem dk_FB_eatBox (d : Nat) : dOK (d + 1) d m_FB_eatBox := ⟨Nat.le_refl _, by show 19 + 3 + 40 * d ≤ 40 * (d + 1); omega⟩
set_option maxRecDepth 100000 in
theorem lc_FB_eatBox : LkC m_FB_eatBox 1 := ⟨lwG_in (List.mem_of_getElem? (i := 723) rfl) rfl, lwG_in (List.mem_of_getElem? (i := 113) rfl) rfl, by decide +kernel, by decide +kernel, by decide +kernel⟩
def m_FB_saveAct : MM := (10, ⟨"FrostBox", "saveAct", "()V"⟩, prog_1_method_27_code, 1, none, 0, 0)
theorem ok_FB_saveAct : mOK m_FB_saveAct := ⟨by decide +kernel, by decide +kernel⟩
theorem dk_FB_saveAct (d : Nat) : dOK (d + 1) d m_FB_saveAct := ⟨Nat.le_refl _, by show 19 + 1 + 40 * d ≤ 40 * (d + 1); omega⟩
set_option maxRecDepth 100000 in
theorem lc_FB_saveAct : LkC m_FB_saveAct 0 := ⟨lwG_in (List.mem_of_getElem? (i := 698) rfl) rfl, lwG_in (List.mem_of_getElem? (i := 113) rfl) rfl, by decide +kernel, by decide +kernel, by decide +kernel⟩
def m_FB_put : MM := (10, ⟨"FrostBox", "put", "(IIZ)I"⟩, prog_1_method_28_code, 4, some .int, 0, 0)
theorem ok_FB_put : mOK m_FB_put := ⟨by decide +kernel, by decide +kernel⟩
theorem dk_FB_put (d : Nat) : dOK (d + 1) d m_FB_put := ⟨Nat.le_refl _, by show 19 + 4 + 40 * d ≤ 40 * (d + 1); omega⟩
set_option maxRecDepth 100000 in
theorem lc_FB_put : LkC m_FB_put 3 := ⟨lwG_in (List.mem_of_getElem? (i := 689) rfl) rfl, lwG_in (List.mem_of_getElem? (i := 113) rfl) rfl, by decide +kernel, by decide +kernel, by decide +kernel⟩
def m_FB_take : MM := (10, ⟨"FrostBox", "take", "(I)I"⟩, prog_1_method_29_code, 2, some .int, 0, 0)
theorem ok_FB_take : mOK m_FB_take := ⟨by decide +kernel, by decide +kernel⟩
theorem dk_FB_take (d : Nat) : dOK (d + 1) d m_FB_take := ⟨Nat.le_refl _, by show 19 + 2 + 40 * d ≤ 40 * (d + 1); omega⟩
set_option maxRecDepth 100000 in
theorem lc_FB_take : LkC m_FB_take 1 := ⟨lwG_in (List.mem_of_getElem? (i := 711) rfl) rfl, lwG_in (List.mem_of_getElem? (i := 113) rfl) rfl, by decide +kernel, by decide +kernel, by decide +kernel⟩
def m_FB_label : MM := (10, ⟨"FrostBox", "label", "(I)Z"⟩, prog_1_method_30_code, 2, some .boolean, 0, 0)
theorem ok_FB_label : mOK m_FB_label := ⟨by decide +kernel, by decide +kernel⟩
theorem dk_FB_label (d : Nat) : dOK (d + 1) d m_FB_label := ⟨Nat.le_refl _, by show 19 + 2 + 40 * d ≤ 40 * (d + 1); omega⟩
set_option maxRecDepth 100000 in
theorem lc_FB_label : LkC m_FB_label 1 := ⟨lwG_in (List.mem_of_getElem? (i := 762) rfl) rfl, lwG_in (List.mem_of_getElem? (i := 113) rfl) rfl, by decide +kernel, by decide +kernel, by decide +kernel⟩
def m_FB_canPassMonths : MM := (10, ⟨"FrostBox", "canPassMonths", "(I)Z"⟩, prog_1_method_31_code, 2, some .boolean, 0, 0)
theorem ok_FB_canPassMonths : mOK m_FB_canPassMonths := ⟨by decide +kernel, by decide +kernel⟩
theorem dk_FB_canPassMonths (d : Nat) : dOK (d + 1) d m_FB_canPassMonths := ⟨Nat.le_refl _, by show 19 + 2 + 40 * d ≤ 40 * (d + 1); omega⟩
set_option maxRecDepth 100000 in
theorem lc_FB_canPassMonths : LkC m_FB_canPassMonths 1 := ⟨lwG_in (List.mem_of_getElem? (i := 778) rfl) rfl, lwG_in (List.mem_of_getElem? (i := 113) rfl) rfl, by decide +kernel, by decide +kernel, by decide +kernel⟩
def m_FB_passMonthsAsActs : MM := (10, ⟨"FrostBox", "passMonthsAsActs", "(I)V"⟩, prog_1_method_32_code, 3, none, 0, 0)
theorem ok_FB_passMonthsAsActs : mOK m_FB_passMonthsAsActs := ⟨by decide +kernel, by decide +kernel⟩
theorem dk_FB_passMonthsAsActs (d : Nat) : dOK (d + 1) d m_FB_passMonthsAsActs := ⟨Nat.le_refl _, by show 19 + 3 + 40 * d ≤ 40 * (d + 1); omega⟩
set_option maxRecDepth 100000 in
theorem lc_FB_passMonthsAsActs : LkC m_FB_passMonthsAsActs 1 := ⟨lwG_in (List.mem_of_getElem? (i := 782) rfl) rfl, lwG_in (List.mem_of_getElem? (i := 113) rfl) rfl, by decide +kernel, by decide +kernel, by decide +kernel⟩
def m_FB_months : MM := (10, ⟨"FrostBox", "months", "(I)I"⟩, prog_1_method_33_code, 2, some .int, 0, 0)
theorem ok_FB_months : mOK m_FB_months := ⟨by decide +kernel, by decide +kernel⟩
theorem dk_FB_months (d : Nat) : dOK (d + 1) d m_FB_months := ⟨Nat.le_refl _, by show 19 + 2 + 40 * d ≤ 40 * (d + 1); omega⟩
set_option maxRecDepth 100000 in
theorem lc_FB_months : LkC m_FB_months 1 := ⟨lwG_in (List.mem_of_getElem? (i := 774) rfl) rfl, lwG_in (List.mem_of_getElem? (i := 113) rfl) rfl, by decide +kernel, by decide +kernel, by decide +kernel⟩
def m_FB_isHours : MM := (10, ⟨"FrostBox", "isHours", "(I)Z"⟩, prog_1_method_34_code, 2, some .boolean, 0, 0)
theorem ok_FB_isHours : mOK m_FB_isHours := ⟨by decide +kernel, by decide +kernel⟩
theorem dk_FB_isHours (d : Nat) : dOK (d + 1) d m_FB_isHours := ⟨Nat.le_refl _, by show 19 + 2 + 40 * d ≤ 40 * (d + 1); omega⟩
set_option maxRecDepth 100000 in
theorem lc_FB_isHours : LkC m_FB_isHours 1 := ⟨lwG_in (List.mem_of_getElem? (i := 800) rfl) rfl, lwG_in (List.mem_of_getElem? (i := 113) rfl) rfl, by decide +kernel, by decide +kernel, by decide +kernel⟩
def m_FB_off : MM := (10, ⟨"FrostBox", "off", "(I)I"⟩, prog_1_method_35_code, 3, some .int, 0, 0)
theorem ok_FB_off : mOK m_FB_off := ⟨by decide +kernel, by decide +kernel⟩
theorem dk_FB_off (d : Nat) : dOK (d + 1) d m_FB_off := ⟨Nat.le_refl _, by show 19 + 3 + 40 * d ≤ 40 * (d + 1); omega⟩
set_option maxRecDepth 100000 in
theorem lc_FB_off : LkC m_FB_off 1 := ⟨lwG_in (List.mem_of_getElem? (i := 796) rfl) rfl, lwG_in (List.mem_of_getElem? (i := 113) rfl) rfl, by decide +kernel, by decide +kernel, by decide +kernel⟩
def m_FB_years : MM := (10, ⟨"FrostBox", "years", "(IJ)I"⟩, prog_1_method_36_code, 7, some .int, 0, 0)
theorem ok_FB_years : mOK m_FB_years := ⟨by decide +kernel, by decide +kernel⟩
theorem dk_FB_years (d : Nat) : dOK (d + 1) d m_FB_years := ⟨Nat.le_refl _, by show 19 + 7 + 40 * d ≤ 40 * (d + 1); omega⟩
set_option maxRecDepth 100000 in
theorem lc_FB_years : LkC m_FB_years 2 := ⟨lwG_in (List.mem_of_getElem? (i := 813) rfl) rfl, lwG_in (List.mem_of_getElem? (i := 113) rfl) rfl, by decide +kernel, by decide +kernel, by decide +kernel⟩
def m_FB_liveMonth : MM := (10, ⟨"FrostBox", "liveMonth", "(J)J"⟩, prog_1_method_37_code, 9, some .long, 0, 0)
theorem ok_FB_liveMonth : mOK m_FB_liveMonth := ⟨by decide +kernel, by decide +kernel⟩
theorem dk_FB_liveMonth (d : Nat) : dOK (d + 1) d m_FB_liveMonth := ⟨Nat.le_refl _, by show 19 + 9 + 40 * d ≤ 40 * (d + 1); omega⟩
set_option maxRecDepth 100000 in
theorem lc_FB_liveMonth : LkC m_FB_liveMonth 1 := ⟨lwG_in (List.mem_of_getElem? (i := 817) rfl) rfl, lwG_in (List.mem_of_getElem? (i := 113) rfl) rfl, by decide +kernel, by decide +kernel, by decide +kernel⟩
def m_FB_nextDraw : MM := (10, ⟨"FrostBox", "nextDraw", "(J)J"⟩, prog_1_method_38_code, 2, some .long, 0, 0)
theorem ok_FB_nextDraw : mOK m_FB_nextDraw := ⟨by decide +kernel, by decide +kernel⟩
theorem dk_FB_nextDraw (d : Nat) : dOK (d + 1) d m_FB_nextDraw := ⟨Nat.le_refl _, by show 19 + 2 + 40 * d ≤ 40 * (d + 1); omega⟩
set_option maxRecDepth 100000 in
theorem lc_FB_nextDraw : LkC m_FB_nextDraw 1 := ⟨lwG_in (List.mem_of_getElem? (i := 820) rfl) rfl, lwG_in (List.mem_of_getElem? (i := 113) rfl) rfl, by decide +kernel, by decide +kernel, by decide +kernel⟩
def m_FB_drawnOf : MM := (10, ⟨"FrostBox", "drawnOf", "(JI)I"⟩, prog_1_method_39_code, 3, some .int, 0, 0)
theorem ok_FB_drawnOf : mOK m_FB_drawnOf := ⟨by decide +kernel, by decide +kernel⟩
theorem dk_FB_drawnOf (d : Nat) : dOK (d + 1) d m_FB_drawnOf := ⟨Nat.le_refl _, by show 19 + 3 + 40 * d ≤ 40 * (d + 1); omega⟩
set_option maxRecDepth 100000 in
theorem lc_FB_drawnOf : LkC m_FB_drawnOf 2 := ⟨lwG_in (List.mem_of_getElem? (i := 825) rfl) rfl, lwG_in (List.mem_of_getElem? (i := 113) rfl) rfl, by decide +kernel, by decide +kernel, by decide +kernel⟩
def m_FB_undo : MM := (10, ⟨"FrostBox", "undo", "()I"⟩, prog_1_method_40_code, 1, some .int, 0, 0)
theorem ok_FB_undo : mOK m_FB_undo := ⟨by decide +kernel, by decide +kernel⟩
theorem dk_FB_undo (d : Nat) : dOK (d + 1) d m_FB_undo := ⟨Nat.le_refl _, by show 19 + 1 + 40 * d ≤ 40 * (d + 1); omega⟩
set_option maxRecDepth 100000 in
theorem lc_FB_undo : LkC m_FB_undo 0 := ⟨lwG_in (List.mem_of_getElem? (i := 829) rfl) rfl, lwG_in (List.mem_of_getElem? (i := 113) rfl) rfl, by decide +kernel, by decide +kernel, by decide +kernel⟩
def m_FB_log : MM := (10, ⟨"FrostBox", "log", "(II)I"⟩, prog_1_method_41_code, 3, some .int, 0, 0)
theorem ok_FB_log : mOK m_FB_log := ⟨by decide +kernel, by decide +kernel⟩
theorem dk_FB_log (d : Nat) : dOK (d + 1) d m_FB_log := ⟨Nat.le_refl _, by show 19 + 3 + 40 * d ≤ 40 * (d + 1); omega⟩
set_option maxRecDepth 100000 in
theorem lc_FB_log : LkC m_FB_log 2 := ⟨lwG_in (List.mem_of_getElem? (i := 837) rfl) rfl, lwG_in (List.mem_of_getElem? (i := 113) rfl) rfl, by decide +kernel, by decide +kernel, by decide +kernel⟩
def m_FB_image : MM := (10, ⟨"FrostBox", "image", "()I"⟩, prog_1_method_42_code, 1, some .int, 0, 0)
theorem ok_FB_image : mOK m_FB_image := ⟨by decide +kernel, by decide +kernel⟩
theorem dk_FB_image (d : Nat) : dOK (d + 1) d m_FB_image := ⟨Nat.le_refl _, by show 19 + 1 + 40 * d ≤ 40 * (d + 1); omega⟩
set_option maxRecDepth 100000 in
theorem lc_FB_image : LkC m_FB_image 0 := ⟨lwG_in (List.mem_of_getElem? (i := 850) rfl) rfl, lwG_in (List.mem_of_getElem? (i := 113) rfl) rfl, by decide +kernel, by decide +kernel, by decide +kernel⟩
def m_FB_back : MM := (10, ⟨"FrostBox", "back", "()I"⟩, prog_1_method_43_code, 1, some .int, 0, 0)
theorem ok_FB_back : mOK m_FB_back := ⟨by decide +kernel, by decide +kernel⟩
theorem dk_FB_back (d : Nat) : dOK (d + 1) d m_FB_back := ⟨Nat.le_refl _, by show 19 + 1 + 40 * d ≤ 40 * (d + 1); omega⟩
set_option maxRecDepth 100000 in
theorem lc_FB_back : LkC m_FB_back 0 := ⟨lwG_in (List.mem_of_getElem? (i := 864) rfl) rfl, lwG_in (List.mem_of_getElem? (i := 113) rfl) rfl, by decide +kernel, by decide +kernel, by decide +kernel⟩
def m_FB_isPlan : MM := (10, ⟨"FrostBox", "isPlan", "(I)Z"⟩, prog_1_method_44_code, 2, some .boolean, 0, 0)
theorem ok_FB_isPlan : mOK m_FB_isPlan := ⟨by decide +kernel, by decide +kernel⟩
theorem dk_FB_isPlan (d : Nat) : dOK (d + 1) d m_FB_isPlan := ⟨Nat.le_refl _, by show 19 + 2 + 40 * d ≤ 40 * (d + 1); omega⟩
set_option maxRecDepth 100000 in
theorem lc_FB_isPlan : LkC m_FB_isPlan 1 := ⟨lwG_in (List.mem_of_getElem? (i := 876) rfl) rfl, lwG_in (List.mem_of_getElem? (i := 113) rfl) rfl, by decide +kernel, by decide +kernel, by decide +kernel⟩
def m_FB_step : MM := (10, ⟨"FrostBox", "step", "(III)I"⟩, prog_1_method_45_code, 4, some .int, 0, 0)
theorem ok_FB_step : mOK m_FB_step := ⟨by decide +kernel, by decide +kernel⟩
theorem dk_FB_step (d : Nat) : dOK (d + 1) d m_FB_step := ⟨Nat.le_refl _, by show 19 + 4 + 40 * d ≤ 40 * (d + 1); omega⟩
set_option maxRecDepth 100000 in
theorem lc_FB_step : LkC m_FB_step 3 := ⟨lwG_in (List.mem_of_getElem? (i := 872) rfl) rfl, lwG_in (List.mem_of_getElem? (i := 113) rfl) rfl, by decide +kernel, by decide +kernel, by decide +kernel⟩
def m_FB_run : MM := (10, ⟨"FrostBox", "run", "(II)I"⟩, prog_1_method_46_code, 6, some .int, 0, 0)
theorem ok_FB_run : mOK m_FB_run := ⟨by decide +kernel, by decide +kernel⟩
theorem dk_FB_run (d : Nat) : dOK (d + 1) d m_FB_run := ⟨Nat.le_refl _, by show 19 + 6 + 40 * d ≤ 40 * (d + 1); omega⟩
set_option maxRecDepth 100000 in
theorem lc_FB_run : LkC m_FB_run 2 := ⟨lwG_in (List.mem_of_getElem? (i := 885) rfl) rfl, lwG_in (List.mem_of_getElem? (i := 113) rfl) rfl, by decide +kernel, by decide +kernel, by decide +kernel⟩
def m_FB_canBe : MM := (10, ⟨"FrostBox", "canBe", "(LFrostBox$Pile;LFrostBox$Plan;I)Z"⟩, prog_1_method_47_code, 5, some .boolean, 0, 0)
theorem ok_FB_canBe : mOK m_FB_canBe := ⟨by decide +kernel, by decide +kernel⟩
theorem dk_FB_canBe (d : Nat) : dOK (d + 1) d m_FB_canBe := ⟨Nat.le_refl _, by show 19 + 5 + 40 * d ≤ 40 * (d + 1); omega⟩
set_option maxRecDepth 100000 in
theorem lc_FB_canBe : LkC m_FB_canBe 3 := ⟨lwG_in (List.mem_of_getElem? (i := 889) rfl) rfl, lwG_in (List.mem_of_getElem? (i := 113) rfl) rfl, by decide +kernel, by decide +kernel, by decide +kernel⟩
def m_FB_goApart : MM := (10, ⟨"FrostBox", "goApart", "(LFrostBox$Plan;I)V"⟩, prog_1_method_48_code, 5, none, 0, 0)
theorem ok_FB_goApart : mOK m_FB_goApart := ⟨by decide +kernel, by decide +kernel⟩
theorem dk_FB_goApart (d : Nat) : dOK (d + 1) d m_FB_goApart := ⟨Nat.le_refl _, by show 19 + 5 + 40 * d ≤ 40 * (d + 1); omega⟩
set_option maxRecDepth 100000 in
theorem lc_FB_goApart : LkC m_FB_goApart 2 := ⟨lwG_in (List.mem_of_getElem? (i := 893) rfl) rfl, lwG_in (List.mem_of_getElem? (i := 113) rfl) rfl, by decide +kernel, by decide +kernel, by decide +kernel⟩
def m_FB_perform : MM := (10, ⟨"FrostBox", "perform", "(I)I"⟩, prog_1_method_49_code, 5, some .int, 0, 0)
theorem ok_FB_perform : mOK m_FB_perform := ⟨by decide +kernel, by decide +kernel⟩
theorem dk_FB_perform (d : Nat) : dOK (d + 1) d m_FB_perform := ⟨Nat.le_refl _, by show 19 + 5 + 40 * d ≤ 40 * (d + 1); omega⟩
set_option maxRecDepth 100000 in
theorem lc_FB_perform : LkC m_FB_perform 1 := ⟨lwG_in (List.mem_of_getElem? (i := 897) rfl) rfl, lwG_in (List.mem_of_getElem? (i := 113) rfl) rfl, by decide +kernel, by decide +kernel, by decide +kernel⟩
def m_FB_dinner : MM := (10, ⟨"FrostBox", "dinner", "(II)I"⟩, prog_1_method_50_code, 9, some .int, 0, 0)
theorem ok_FB_dinner : mOK m_FB_dinner := ⟨by decide +kernel, by decide +kernel⟩
theorem dk_FB_dinner (d : Nat) : dOK (d + 1) d m_FB_dinner := ⟨Nat.le_refl _, by show 19 + 9 + 40 * d ≤ 40 * (d + 1); omega⟩
set_option maxRecDepth 100000 in
theorem lc_FB_dinner : LkC m_FB_dinner 2 := ⟨lwG_in (List.mem_of_getElem? (i := 905) rfl) rfl, lwG_in (List.mem_of_getElem? (i := 113) rfl) rfl, by decide +kernel, by decide +kernel, by decide +kernel⟩
def m_FB_portionsOf : MM := (10, ⟨"FrostBox", "portionsOf", "(I)I"⟩, prog_1_method_51_code, 4, some .int, 0, 0)
theorem ok_FB_portionsOf : mOK m_FB_portionsOf := ⟨by decide +kernel, by decide +kernel⟩
theorem dk_FB_portionsOf (d : Nat) : dOK (d + 1) d m_FB_portionsOf := ⟨Nat.le_refl _, by show 19 + 4 + 40 * d ≤ 40 * (d + 1); omega⟩
set_option maxRecDepth 100000 in
theorem lc_FB_portionsOf : LkC m_FB_portionsOf 1 := ⟨lwG_in (List.mem_of_getElem? (i := 913) rfl) rfl, lwG_in (List.mem_of_getElem? (i := 113) rfl) rfl, by decide +kernel, by decide +kernel, by decide +kernel⟩
def m_FB_valueOfSet : MM := (10, ⟨"FrostBox", "valueOfSet", "(I)I"⟩, prog_1_method_52_code, 4, some .int, 0, 0)
theorem ok_FB_valueOfSet : mOK m_FB_valueOfSet := ⟨by decide +kernel, by decide +kernel⟩
theorem dk_FB_valueOfSet (d : Nat) : dOK (d + 1) d m_FB_valueOfSet := ⟨Nat.le_refl _, by show 19 + 4 + 40 * d ≤ 40 * (d + 1); omega⟩
set_option maxRecDepth 100000 in
theorem lc_FB_valueOfSet : LkC m_FB_valueOfSet 1 := ⟨lwG_in (List.mem_of_getElem? (i := 925) rfl) rfl, lwG_in (List.mem_of_getElem? (i := 113) rfl) rfl, by decide +kernel, by decide +kernel, by decide +kernel⟩
def m_FB_goesTogether : MM := (10, ⟨"FrostBox", "goesTogether", "(I)Z"⟩, prog_1_method_53_code, 4, some .boolean, 0, 0)
theorem ok_FB_goesTogether : mOK m_FB_goesTogether := ⟨by decide +kernel, by decide +kernel⟩
theorem dk_FB_goesTogether (d : Nat) : dOK (d + 1) d m_FB_goesTogether := ⟨Nat.le_refl _, by show 19 + 4 + 40 * d ≤ 40 * (d + 1); omega⟩
set_option maxRecDepth 100000 in
theorem lc_FB_goesTogether : LkC m_FB_goesTogether 1 := ⟨lwG_in (List.mem_of_getElem? (i := 917) rfl) rfl, lwG_in (List.mem_of_getElem? (i := 113) rfl) rfl, by decide +kernel, by decide +kernel, by decide +kernel⟩
def m_FB_goes : MM := (10, ⟨"FrostBox", "goes", "(I)I"⟩, prog_1_method_54_code, 2, some .int, 0, 0)
theorem ok_FB_goes : mOK m_FB_goes := ⟨by decide +kernel, by decide +kernel⟩
theorem dk_FB_goes (d : Nat) : dOK (d + 1) d m_FB_goes := ⟨Nat.le_refl _, by show 19 + 2 + 40 * d ≤ 40 * (d + 1); omega⟩
set_option maxRecDepth 100000 in
theorem lc_FB_goes : LkC m_FB_goes 1 := ⟨lwG_in (List.mem_of_getElem? (i := 929) rfl) rfl, lwG_in (List.mem_of_getElem? (i := 113) rfl) rfl, by decide +kernel, by decide +kernel, by decide +kernel⟩
def m_FB_eat : MM := (10, ⟨"FrostBox", "eat", "(I)I"⟩, prog_1_method_55_code, 2, some .int, 0, 0)
theorem ok_FB_eat : mOK m_FB_eat := ⟨by decide +kernel, by decide +kernel⟩
theorem dk_FB_eat (d : Nat) : dOK (d + 1) d m_FB_eat := ⟨Nat.le_refl _, by show 19 + 2 + 40 * d ≤ 40 * (d + 1); omega⟩
set_option maxRecDepth 100000 in
theorem lc_FB_eat : LkC m_FB_eat 1 := ⟨lwG_in (List.mem_of_getElem? (i := 933) rfl) rfl, lwG_in (List.mem_of_getElem? (i := 113) rfl) rfl, by decide +kernel, by decide +kernel, by decide +kernel⟩
def m_FB_fillBest : MM := (10, ⟨"FrostBox", "fillBest", "()V"⟩, prog_1_method_56_code, 5, none, 0, 0)
theorem ok_FB_fillBest : mOK m_FB_fillBest := ⟨by decide +kernel, by decide +kernel⟩
theorem dk_FB_fillBest (d : Nat) : dOK (d + 1) d m_FB_fillBest := ⟨Nat.le_refl _, by show 19 + 5 + 40 * d ≤ 40 * (d + 1); omega⟩
set_option maxRecDepth 100000 in
theorem lc_FB_fillBest : LkC m_FB_fillBest 0 := ⟨lwG_in (List.mem_of_getElem? (i := 945) rfl) rfl, lwG_in (List.mem_of_getElem? (i := 113) rfl) rfl, by decide +kernel, by decide +kernel, by decide +kernel⟩
def m_FB_bestWithFirst : MM := (10, ⟨"FrostBox", "bestWithFirst", "(II)I"⟩, prog_1_method_57_code, 5, some .int, 0, 0)
theorem ok_FB_bestWithFirst : mOK m_FB_bestWithFirst := ⟨by decide +kernel, by decide +kernel⟩
theorem dk_FB_bestWithFirst (d : Nat) : dOK (d + 1) d m_FB_bestWithFirst := ⟨Nat.le_refl _, by show 19 + 5 + 40 * d ≤ 40 * (d + 1); omega⟩
set_option maxRecDepth 100000 in
theorem lc_FB_bestWithFirst : LkC m_FB_bestWithFirst 2 := ⟨lwG_in (List.mem_of_getElem? (i := 949) rfl) rfl, lwG_in (List.mem_of_getElem? (i := 113) rfl) rfl, by decide +kernel, by decide +kernel, by decide +kernel⟩
def m_FB_bestOrder : MM := (10, ⟨"FrostBox", "bestOrder", "()I"⟩, prog_1_method_58_code, 5, some .int, 0, 0)
theorem ok_FB_bestOrder : mOK m_FB_bestOrder := ⟨by decide +kernel, by decide +kernel⟩
theorem dk_FB_bestOrder (d : Nat) : dOK (d + 1) d m_FB_bestOrder := ⟨Nat.le_refl _, by show 19 + 5 + 40 * d ≤ 40 * (d + 1); omega⟩
set_option maxRecDepth 100000 in
theorem lc_FB_bestOrder : LkC m_FB_bestOrder 0 := ⟨lwG_in (List.mem_of_getElem? (i := 959) rfl) rfl, lwG_in (List.mem_of_getElem? (i := 113) rfl) rfl, by decide +kernel, by decide +kernel, by decide +kernel⟩
def m_FB_eatenInTurn : MM := (10, ⟨"FrostBox", "eatenInTurn", "(Z)I"⟩, prog_1_method_59_code, 5, some .int, 0, 0)
theorem ok_FB_eatenInTurn : mOK m_FB_eatenInTurn := ⟨by decide +kernel, by decide +kernel⟩
theorem dk_FB_eatenInTurn (d : Nat) : dOK (d + 1) d m_FB_eatenInTurn := ⟨Nat.le_refl _, by show 19 + 5 + 40 * d ≤ 40 * (d + 1); omega⟩
set_option maxRecDepth 100000 in
theorem lc_FB_eatenInTurn : LkC m_FB_eatenInTurn 1 := ⟨lwG_in (List.mem_of_getElem? (i := 937) rfl) rfl, lwG_in (List.mem_of_getElem? (i := 113) rfl) rfl, by decide +kernel, by decide +kernel, by decide +kernel⟩
def m_FB_costs : MM := (10, ⟨"FrostBox", "costs", "(I)I"⟩, prog_1_method_60_code, 2, some .int, 0, 0)
theorem ok_FB_costs : mOK m_FB_costs := ⟨by decide +kernel, by decide +kernel⟩
theorem dk_FB_costs (d : Nat) : dOK (d + 1) d m_FB_costs := ⟨Nat.le_refl _, by show 19 + 2 + 40 * d ≤ 40 * (d + 1); omega⟩
set_option maxRecDepth 100000 in
theorem lc_FB_costs : LkC m_FB_costs 1 := ⟨lwG_in (List.mem_of_getElem? (i := 963) rfl) rfl, lwG_in (List.mem_of_getElem? (i := 113) rfl) rfl, by decide +kernel, by decide +kernel, by decide +kernel⟩
def m_FB_full : MM := (10, ⟨"FrostBox", "full", "(I)I"⟩, prog_1_method_61_code, 3, some .int, 0, 0)
theorem ok_FB_full : mOK m_FB_full := ⟨by decide +kernel, by decide +kernel⟩
theorem dk_FB_full (d : Nat) : dOK (d + 1) d m_FB_full := ⟨Nat.le_refl _, by show 19 + 3 + 40 * d ≤ 40 * (d + 1); omega⟩
set_option maxRecDepth 100000 in
theorem lc_FB_full : LkC m_FB_full 1 := ⟨lwG_in (List.mem_of_getElem? (i := 971) rfl) rfl, lwG_in (List.mem_of_getElem? (i := 113) rfl) rfl, by decide +kernel, by decide +kernel, by decide +kernel⟩
def m_FB_keep : MM := (10, ⟨"FrostBox", "keep", "(II)I"⟩, prog_1_method_62_code, 7, some .int, 0, 0)
theorem ok_FB_keep : mOK m_FB_keep := ⟨by decide +kernel, by decide +kernel⟩
theorem dk_FB_keep (d : Nat) : dOK (d + 1) d m_FB_keep := ⟨Nat.le_refl _, by show 19 + 7 + 40 * d ≤ 40 * (d + 1); omega⟩
set_option maxRecDepth 100000 in
theorem lc_FB_keep : LkC m_FB_keep 2 := ⟨lwG_in (List.mem_of_getElem? (i := 975) rfl) rfl, lwG_in (List.mem_of_getElem? (i := 113) rfl) rfl, by decide +kernel, by decide +kernel, by decide +kernel⟩
def m_FB_spans : MM := (10, ⟨"FrostBox", "spans", "(II)I"⟩, prog_1_method_63_code, 5, some .int, 0, 0)
theorem ok_FB_spans : mOK m_FB_spans := ⟨by decide +kernel, by decide +kernel⟩
theorem dk_FB_spans (d : Nat) : dOK (d + 1) d m_FB_spans := ⟨Nat.le_refl _, by show 19 + 5 + 40 * d ≤ 40 * (d + 1); omega⟩
set_option maxRecDepth 100000 in
theorem lc_FB_spans : LkC m_FB_spans 2 := ⟨lwG_in (List.mem_of_getElem? (i := 979) rfl) rfl, lwG_in (List.mem_of_getElem? (i := 113) rfl) rfl, by decide +kernel, by decide +kernel, by decide +kernel⟩
def m_FB_nameless : MM := (10, ⟨"FrostBox", "nameless", "()I"⟩, prog_1_method_64_code, 3, some .int, 0, 0)
theorem ok_FB_nameless : mOK m_FB_nameless := ⟨by decide +kernel, by decide +kernel⟩
theorem dk_FB_nameless (d : Nat) : dOK (d + 1) d m_FB_nameless := ⟨Nat.le_refl _, by show 19 + 3 + 40 * d ≤ 40 * (d + 1); omega⟩
set_option maxRecDepth 100000 in
theorem lc_FB_nameless : LkC m_FB_nameless 0 := ⟨lwG_in (List.mem_of_getElem? (i := 991) rfl) rfl, lwG_in (List.mem_of_getElem? (i := 113) rfl) rfl, by decide +kernel, by decide +kernel, by decide +kernel⟩
def m_FB_doubles : MM := (10, ⟨"FrostBox", "doubles", "(I)I"⟩, prog_1_method_65_code, 5, some .int, 0, 0)
theorem ok_FB_doubles : mOK m_FB_doubles := ⟨by decide +kernel, by decide +kernel⟩
theorem dk_FB_doubles (d : Nat) : dOK (d + 1) d m_FB_doubles := ⟨Nat.le_refl _, by show 19 + 5 + 40 * d ≤ 40 * (d + 1); omega⟩
set_option maxRecDepth 100000 in
theorem lc_FB_doubles : LkC m_FB_doubles 1 := ⟨lwG_in (List.mem_of_getElem? (i := 995) rfl) rfl, lwG_in (List.mem_of_getElem? (i := 113) rfl) rfl, by decide +kernel, by decide +kernel, by decide +kernel⟩
def m_FB_looksAlike : MM := (10, ⟨"FrostBox", "looksAlike", "(II)Z"⟩, prog_1_method_66_code, 3, some .boolean, 0, 0)
theorem ok_FB_looksAlike : mOK m_FB_looksAlike := ⟨by decide +kernel, by decide +kernel⟩
theorem dk_FB_looksAlike (d : Nat) : dOK (d + 1) d m_FB_looksAlike := ⟨Nat.le_refl _, by show 19 + 3 + 40 * d ≤ 40 * (d + 1); omega⟩
set_option maxRecDepth 100000 in
theorem lc_FB_looksAlike : LkC m_FB_looksAlike 2 := ⟨lwG_in (List.mem_of_getElem? (i := 999) rfl) rfl, lwG_in (List.mem_of_getElem? (i := 113) rfl) rfl, by decide +kernel, by decide +kernel, by decide +kernel⟩
def m_FB_make : MM := (10, ⟨"FrostBox", "make", "(II)I"⟩, prog_1_method_67_code, 3, some .int, 0, 0)
theorem ok_FB_make : mOK m_FB_make := ⟨by decide +kernel, by decide +kernel⟩
theorem dk_FB_make (d : Nat) : dOK (d + 1) d m_FB_make := ⟨Nat.le_refl _, by show 19 + 3 + 40 * d ≤ 40 * (d + 1); omega⟩
set_option maxRecDepth 100000 in
theorem lc_FB_make : LkC m_FB_make 2 := ⟨lwG_in (List.mem_of_getElem? (i := 1003) rfl) rfl, lwG_in (List.mem_of_getElem? (i := 113) rfl) rfl, by decide +kernel, by decide +kernel, by decide +kernel⟩
def m_FB_peek : MM := (10, ⟨"FrostBox", "peek", "(II)I"⟩, prog_1_method_68_code, 3, some .int, 0, 0)
theorem ok_FB_peek : mOK m_FB_peek := ⟨by decide +kernel, by decide +kernel⟩
theorem dk_FB_peek (d : Nat) : dOK (d + 1) d m_FB_peek := ⟨Nat.le_refl _, by show 19 + 3 + 40 * d ≤ 40 * (d + 1); omega⟩
set_option maxRecDepth 100000 in
theorem lc_FB_peek : LkC m_FB_peek 2 := ⟨lwG_in (List.mem_of_getElem? (i := 1007) rfl) rfl, lwG_in (List.mem_of_getElem? (i := 113) rfl) rfl, by decide +kernel, by decide +kernel, by decide +kernel⟩
def m_FB_what : MM := (10, ⟨"FrostBox", "what", "(I)I"⟩, prog_1_method_69_code, 3, some .int, 0, 0)
theorem ok_FB_what : mOK m_FB_what := ⟨by decide +kernel, by decide +kernel⟩
theorem dk_FB_what (d : Nat) : dOK (d + 1) d m_FB_what := ⟨Nat.le_refl _, by show 19 + 3 + 40 * d ≤ 40 * (d + 1); omega⟩
set_option maxRecDepth 100000 in
theorem lc_FB_what : LkC m_FB_what 1 := ⟨lwG_in (List.mem_of_getElem? (i := 1017) rfl) rfl, lwG_in (List.mem_of_getElem? (i := 113) rfl) rfl, by decide +kernel, by decide +kernel, by decide +kernel⟩
def m_FB_found : MM := (10, ⟨"FrostBox", "found", "(IIZ)I"⟩, prog_1_method_70_code, 4, some .int, 0, 0)
theorem ok_FB_found : mOK m_FB_found := ⟨by decide +kernel, by decide +kernel⟩
theorem dk_FB_found (d : Nat) : dOK (d + 1) d m_FB_found := ⟨Nat.le_refl _, by show 19 + 4 + 40 * d ≤ 40 * (d + 1); omega⟩
set_option maxRecDepth 100000 in
theorem lc_FB_found : LkC m_FB_found 3 := ⟨lwG_in (List.mem_of_getElem? (i := 1039) rfl) rfl, lwG_in (List.mem_of_getElem? (i := 113) rfl) rfl, by decide +kernel, by decide +kernel, by decide +kernel⟩
def m_FB_history : MM := (10, ⟨"FrostBox", "history", "(II)I"⟩, prog_1_method_71_code, 6, some .int, 0, 0)
theorem ok_FB_history : mOK m_FB_history := ⟨by decide +kernel, by decide +kernel⟩
theorem dk_FB_history (d : Nat) : dOK (d + 1) d m_FB_history := ⟨Nat.le_refl _, by show 19 + 6 + 40 * d ≤ 40 * (d + 1); omega⟩
set_option maxRecDepth 100000 in
theorem lc_FB_history : LkC m_FB_history 2 := ⟨lwG_in (List.mem_of_getElem? (i := 1047) rfl) rfl, lwG_in (List.mem_of_getElem? (i := 113) rfl) rfl, by decide +kernel, by decide +kernel, by decide +kernel⟩
def m_FB_share : MM := (10, ⟨"FrostBox", "share", "(I)I"⟩, prog_1_method_72_code, 5, some .int, 0, 0)
theorem ok_FB_share : mOK m_FB_share := ⟨by decide +kernel, by decide +kernel⟩
theorem dk_FB_share (d : Nat) : dOK (d + 1) d m_FB_share := ⟨Nat.le_refl _, by show 19 + 5 + 40 * d ≤ 40 * (d + 1); omega⟩
set_option maxRecDepth 100000 in
theorem lc_FB_share : LkC m_FB_share 1 := ⟨lwG_in (List.mem_of_getElem? (i := 1072) rfl) rfl, lwG_in (List.mem_of_getElem? (i := 113) rfl) rfl, by decide +kernel, by decide +kernel, by decide +kernel⟩
def m_FB_lot : MM := (10, ⟨"FrostBox", "lot", "(I)I"⟩, prog_1_method_73_code, 7, some .int, 0, 0)
theorem ok_FB_lot : mOK m_FB_lot := ⟨by decide +kernel, by decide +kernel⟩
theorem dk_FB_lot (d : Nat) : dOK (d + 1) d m_FB_lot := ⟨Nat.le_refl _, by show 19 + 7 + 40 * d ≤ 40 * (d + 1); omega⟩
set_option maxRecDepth 100000 in
theorem lc_FB_lot : LkC m_FB_lot 1 := ⟨lwG_in (List.mem_of_getElem? (i := 1085) rfl) rfl, lwG_in (List.mem_of_getElem? (i := 113) rfl) rfl, by decide +kernel, by decide +kernel, by decide +kernel⟩
def m_FB_labels : MM := (10, ⟨"FrostBox", "labels", "(II)I"⟩, prog_1_method_74_code, 3, some .int, 0, 0)
theorem ok_FB_labels : mOK m_FB_labels := ⟨by decide +kernel, by decide +kernel⟩
theorem dk_FB_labels (d : Nat) : dOK (d + 1) d m_FB_labels := ⟨Nat.le_refl _, by show 19 + 3 + 40 * d ≤ 40 * (d + 1); omega⟩
set_option maxRecDepth 100000 in
theorem lc_FB_labels : LkC m_FB_labels 2 := ⟨lwG_in (List.mem_of_getElem? (i := 1089) rfl) rfl, lwG_in (List.mem_of_getElem? (i := 113) rfl) rfl, by decide +kernel, by decide +kernel, by decide +kernel⟩
def m_FB_labellerHas : MM := (10, ⟨"FrostBox", "labellerHas", "(II)I"⟩, prog_1_method_75_code, 4, some .int, 0, 0)
theorem ok_FB_labellerHas : mOK m_FB_labellerHas := ⟨by decide +kernel, by decide +kernel⟩
theorem dk_FB_labellerHas (d : Nat) : dOK (d + 1) d m_FB_labellerHas := ⟨Nat.le_refl _, by show 19 + 4 + 40 * d ≤ 40 * (d + 1); omega⟩
set_option maxRecDepth 100000 in
theorem lc_FB_labellerHas : LkC m_FB_labellerHas 2 := ⟨lwG_in (List.mem_of_getElem? (i := 1093) rfl) rfl, lwG_in (List.mem_of_getElem? (i := 113) rfl) rfl, by decide +kernel, by decide +kernel, by decide +kernel⟩
def m_FB_rests : MM := (10, ⟨"FrostBox", "rests", "(I)I"⟩, prog_1_method_76_code, 6, some .int, 0, 0)
theorem ok_FB_rests : mOK m_FB_rests := ⟨by decide +kernel, by decide +kernel⟩
theorem dk_FB_rests (d : Nat) : dOK (d + 1) d m_FB_rests := ⟨Nat.le_refl _, by show 19 + 6 + 40 * d ≤ 40 * (d + 1); omega⟩
set_option maxRecDepth 100000 in
theorem lc_FB_rests : LkC m_FB_rests 1 := ⟨lwG_in (List.mem_of_getElem? (i := 1098) rfl) rfl, lwG_in (List.mem_of_getElem? (i := 113) rfl) rfl, by decide +kernel, by decide +kernel, by decide +kernel⟩
def m_FB_most : MM := (10, ⟨"FrostBox", "most", "(I)I"⟩, prog_1_method_77_code, 7, some .int, 0, 0)
theorem ok_FB_most : mOK m_FB_most := ⟨by decide +kernel, by decide +kernel⟩
theorem dk_FB_most (d : Nat) : dOK (d + 1) d m_FB_most := ⟨Nat.le_refl _, by show 19 + 7 + 40 * d ≤ 40 * (d + 1); omega⟩
set_option maxRecDepth 100000 in
theorem lc_FB_most : LkC m_FB_most 1 := ⟨lwG_in (List.mem_of_getElem? (i := 1102) rfl) rfl, lwG_in (List.mem_of_getElem? (i := 113) rfl) rfl, by decide +kernel, by decide +kernel, by decide +kernel⟩
def m_FB_spoilt : MM := (10, ⟨"FrostBox", "spoilt", "()I"⟩, prog_1_method_78_code, 3, some .int, 0, 0)
theorem ok_FB_spoilt : mOK m_FB_spoilt := ⟨by decide +kernel, by decide +kernel⟩
theorem dk_FB_spoilt (d : Nat) : dOK (d + 1) d m_FB_spoilt := ⟨Nat.le_refl _, by show 19 + 3 + 40 * d ≤ 40 * (d + 1); omega⟩
set_option maxRecDepth 100000 in
theorem lc_FB_spoilt : LkC m_FB_spoilt 0 := ⟨lwG_in (List.mem_of_getElem? (i := 1106) rfl) rfl, lwG_in (List.mem_of_getElem? (i := 113) rfl) rfl, by decide +kernel, by decide +kernel, by decide +kernel⟩
def m_FB_buried : MM := (10, ⟨"FrostBox", "buried", "(I)I"⟩, prog_1_method_79_code, 4, some .int, 0, 0)
theorem ok_FB_buried : mOK m_FB_buried := ⟨by decide +kernel, by decide +kernel⟩
theorem dk_FB_buried (d : Nat) : dOK (d + 1) d m_FB_buried := ⟨Nat.le_refl _, by show 19 + 4 + 40 * d ≤ 40 * (d + 1); omega⟩
set_option maxRecDepth 100000 in
theorem lc_FB_buried : LkC m_FB_buried 1 := ⟨lwG_in (List.mem_of_getElem? (i := 1110) rfl) rfl, lwG_in (List.mem_of_getElem? (i := 113) rfl) rfl, by decide +kernel, by decide +kernel, by decide +kernel⟩
def m_FB_soonest : MM := (10, ⟨"FrostBox", "soonest", "(I)I"⟩, prog_1_method_80_code, 4, some .int, 0, 0)
theorem ok_FB_soonest : mOK m_FB_soonest := ⟨by decide +kernel, by decide +kernel⟩
theorem dk_FB_soonest (d : Nat) : dOK (d + 1) d m_FB_soonest := ⟨Nat.le_refl _, by show 19 + 4 + 40 * d ≤ 40 * (d + 1); omega⟩
set_option maxRecDepth 100000 in
theorem lc_FB_soonest : LkC m_FB_soonest 1 := ⟨lwG_in (List.mem_of_getElem? (i := 1114) rfl) rfl, lwG_in (List.mem_of_getElem? (i := 113) rfl) rfl, by decide +kernel, by decide +kernel, by decide +kernel⟩
def m_FB_monthly : MM := (10, ⟨"FrostBox", "monthly", "(I)I"⟩, prog_1_method_81_code, 2, some .int, 0, 0)
theorem ok_FB_monthly : mOK m_FB_monthly := ⟨by decide +kernel, by decide +kernel⟩
theorem dk_FB_monthly (d : Nat) : dOK (d + 1) d m_FB_monthly := ⟨Nat.le_refl _, by show 19 + 2 + 40 * d ≤ 40 * (d + 1); omega⟩
set_option maxRecDepth 100000 in
theorem lc_FB_monthly : LkC m_FB_monthly 1 := ⟨lwG_in (List.mem_of_getElem? (i := 1118) rfl) rfl, lwG_in (List.mem_of_getElem? (i := 113) rfl) rfl, by decide +kernel, by decide +kernel, by decide +kernel⟩
def m_FB_count : MM := (10, ⟨"FrostBox", "count", "(I)I"⟩, prog_1_method_82_code, 2, some .int, 0, 0)
theorem ok_FB_count : mOK m_FB_count := ⟨by decide +kernel, by decide +kernel⟩
theorem dk_FB_count (d : Nat) : dOK (d + 1) d m_FB_count := ⟨Nat.le_refl _, by show 19 + 2 + 40 * d ≤ 40 * (d + 1); omega⟩
set_option maxRecDepth 100000 in
theorem lc_FB_count : LkC m_FB_count 1 := ⟨lwG_in (List.mem_of_getElem? (i := 1122) rfl) rfl, lwG_in (List.mem_of_getElem? (i := 113) rfl) rfl, by decide +kernel, by decide +kernel, by decide +kernel⟩
def m_FB_placeAmong : MM := (10, ⟨"FrostBox", "placeAmong", "([CI)I"⟩, prog_1_method_83_code, 3, some .int, 0, 0)
theorem ok_FB_placeAmong : mOK m_FB_placeAmong := ⟨by decide +kernel, by decide +kernel⟩
theorem dk_FB_placeAmong (d : Nat) : dOK (d + 1) d m_FB_placeAmong := ⟨Nat.le_refl _, by show 19 + 3 + 40 * d ≤ 40 * (d + 1); omega⟩
set_option maxRecDepth 100000 in
theorem lc_FB_placeAmong : LkC m_FB_placeAmong 2 := ⟨lwG_in (List.mem_of_getElem? (i := 514) rfl) rfl, lwG_in (List.mem_of_getElem? (i := 113) rfl) rfl, by decide +kernel, by decide +kernel, by decide +kernel⟩
def m_MO_thrown : MM := (11, ⟨"FrostBoxModel", "thrown", "()I"⟩, prog_13_method_2_code, 1, some .int, 0, 0)
theorem ok_MO_thrown : mOK m_MO_thrown := ⟨by decide +kernel, by decide +kernel⟩
theorem dk_MO_thrown (d : Nat) : dOK (d + 1) d m_MO_thrown := ⟨Nat.le_refl _, by show 19 + 1 + 40 * d ≤ 40 * (d + 1); omega⟩
set_option maxRecDepth 100000 in
theorem lc_MO_thrown : LkC m_MO_thrown 0 := ⟨lwG_in (List.mem_of_getElem? (i := 1380) rfl) rfl, lwG_in (List.mem_of_getElem? (i := 124) rfl) rfl, by decide +kernel, by decide +kernel, by decide +kernel⟩
def m_MO_isIn : MM := (11, ⟨"FrostBoxModel", "isIn", "(JJJ)Z"⟩, prog_13_method_3_code, 6, some .boolean, 0, 0)
theorem ok_MO_isIn : mOK m_MO_isIn := ⟨by decide +kernel, by decide +kernel⟩
theorem dk_MO_isIn (d : Nat) : dOK (d + 1) d m_MO_isIn := ⟨Nat.le_refl _, by show 19 + 6 + 40 * d ≤ 40 * (d + 1); omega⟩
set_option maxRecDepth 100000 in
theorem lc_MO_isIn : LkC m_MO_isIn 3 := ⟨lwG_in (List.mem_of_getElem? (i := 1403) rfl) rfl, lwG_in (List.mem_of_getElem? (i := 124) rfl) rfl, by decide +kernel, by decide +kernel, by decide +kernel⟩
def m_MO_has : MM := (11, ⟨"FrostBoxModel", "has", "(II)Z"⟩, prog_13_method_4_code, 2, some .boolean, 0, 0)
theorem ok_MO_has : mOK m_MO_has := ⟨by decide +kernel, by decide +kernel⟩
theorem dk_MO_has (d : Nat) : dOK (d + 1) d m_MO_has := ⟨Nat.le_refl _, by show 19 + 2 + 40 * d ≤ 40 * (d + 1); omega⟩
set_option maxRecDepth 100000 in
theorem lc_MO_has : LkC m_MO_has 2 := ⟨lwG_in (List.mem_of_getElem? (i := 1485) rfl) rfl, lwG_in (List.mem_of_getElem? (i := 124) rfl) rfl, by decide +kernel, by decide +kernel, by decide +kernel⟩
def m_MO_isAmong : MM := (11, ⟨"FrostBoxModel", "isAmong", "(Ljava/lang/String;I)Z"⟩, prog_13_method_5_code, 3, some .boolean, 0, 0)
theorem ok_MO_isAmong : mOK m_MO_isAmong := ⟨by decide +kernel, by decide +kernel⟩
theorem dk_MO_isAmong (d : Nat) : dOK (d + 1) d m_MO_isAmong := ⟨Nat.le_refl _, by show 19 + 3 + 40 * d ≤ 40 * (d + 1); omega⟩
set_option maxRecDepth 100000 in
theorem lc_MO_isAmong : LkC m_MO_isAmong 2 := ⟨lwG_in (List.mem_of_getElem? (i := 1520) rfl) rfl, lwG_in (List.mem_of_getElem? (i := 124) rfl) rfl, by decide +kernel, by decide +kernel, by decide +kernel⟩
def m_MO_bytesIn : MM := (11, ⟨"FrostBoxModel", "bytesIn", "(I)I"⟩, prog_13_method_6_code, 3, some .int, 0, 0)
theorem ok_MO_bytesIn : mOK m_MO_bytesIn := ⟨by decide +kernel, by decide +kernel⟩
theorem dk_MO_bytesIn (d : Nat) : dOK (d + 1) d m_MO_bytesIn := ⟨Nat.le_refl _, by show 19 + 3 + 40 * d ≤ 40 * (d + 1); omega⟩
set_option maxRecDepth 100000 in
theorem lc_MO_bytesIn : LkC m_MO_bytesIn 1 := ⟨lwG_in (List.mem_of_getElem? (i := 1387) rfl) rfl, lwG_in (List.mem_of_getElem? (i := 124) rfl) rfl, by decide +kernel, by decide +kernel, by decide +kernel⟩
def m_MO_put1 : MM := (11, ⟨"FrostBoxModel", "put", "(I)V"⟩, prog_13_method_7_code, 3, none, 0, 0)
theorem ok_MO_put1 : mOK m_MO_put1 := ⟨by decide +kernel, by decide +kernel⟩
theorem dk_MO_put1 (d : Nat) : dOK (d + 1) d m_MO_put1 := ⟨Nat.le_refl _, by show 19 + 3 + 40 * d ≤ 40 * (d + 1); omega⟩
set_option maxRecDepth 100000 in
theorem lc_MO_put1 : LkC m_MO_put1 1 := ⟨lwG_in (List.mem_of_getElem? (i := 1391) rfl) rfl, lwG_in (List.mem_of_getElem? (i := 124) rfl) rfl, by decide +kernel, by decide +kernel, by decide +kernel⟩
def m_MO_feed : MM := (11, ⟨"FrostBoxModel", "feed", "(IIIII)I"⟩, prog_13_method_8_code, 6, some .int, 0, 0)
theorem ok_MO_feed : mOK m_MO_feed := ⟨by decide +kernel, by decide +kernel⟩
theorem dk_MO_feed (d : Nat) : dOK (d + 1) d m_MO_feed := ⟨Nat.le_refl _, by show 19 + 6 + 40 * d ≤ 40 * (d + 1); omega⟩
set_option maxRecDepth 100000 in
theorem lc_MO_feed : LkC m_MO_feed 5 := ⟨lwG_in (List.mem_of_getElem? (i := 1384) rfl) rfl, lwG_in (List.mem_of_getElem? (i := 124) rfl) rfl, by decide +kernel, by decide +kernel, by decide +kernel⟩
def m_MO_end : MM := (11, ⟨"FrostBoxModel", "end", "(I)Z"⟩, prog_13_method_9_code, 2, some .boolean, 0, 0)
theorem ok_MO_end : mOK m_MO_end := ⟨by decide +kernel, by decide +kernel⟩
theorem dk_MO_end (d : Nat) : dOK (d + 1) d m_MO_end := ⟨Nat.le_refl _, by show 19 + 2 + 40 * d ≤ 40 * (d + 1); omega⟩
set_option maxRecDepth 100000 in
theorem lc_MO_end : LkC m_MO_end 1 := ⟨lwG_in (List.mem_of_getElem? (i := 1395) rfl) rfl, lwG_in (List.mem_of_getElem? (i := 124) rfl) rfl, by decide +kernel, by decide +kernel, by decide +kernel⟩
def m_MO_look : MM := (11, ⟨"FrostBoxModel", "look", "()I"⟩, prog_13_method_10_code, 1, some .int, 0, 0)
theorem ok_MO_look : mOK m_MO_look := ⟨by decide +kernel, by decide +kernel⟩
theorem dk_MO_look (d : Nat) : dOK (d + 1) d m_MO_look := ⟨Nat.le_refl _, by show 19 + 1 + 40 * d ≤ 40 * (d + 1); omega⟩
set_option maxRecDepth 100000 in
theorem lc_MO_look : LkC m_MO_look 0 := ⟨lwG_in (List.mem_of_getElem? (i := 1422) rfl) rfl, lwG_in (List.mem_of_getElem? (i := 124) rfl) rfl, by decide +kernel, by decide +kernel, by decide +kernel⟩
def m_MO_fails : MM := (11, ⟨"FrostBoxModel", "fails", "()Z"⟩, prog_13_method_11_code, 1, some .boolean, 0, 0)
theorem ok_MO_fails : mOK m_MO_fails := ⟨by decide +kernel, by decide +kernel⟩
theorem dk_MO_fails (d : Nat) : dOK (d + 1) d m_MO_fails := ⟨Nat.le_refl _, by show 19 + 1 + 40 * d ≤ 40 * (d + 1); omega⟩
set_option maxRecDepth 100000 in
theorem lc_MO_fails : LkC m_MO_fails 0 := ⟨lwG_in (List.mem_of_getElem? (i := 1426) rfl) rfl, lwG_in (List.mem_of_getElem? (i := 124) rfl) rfl, by decide +kernel, by decide +kernel, by decide +kernel⟩
def m_MO_goesIn : MM := (11, ⟨"FrostBoxModel", "goesIn", "()Z"⟩, prog_13_method_12_code, 1, some .boolean, 0, 0)
theorem ok_MO_goesIn : mOK m_MO_goesIn := ⟨by decide +kernel, by decide +kernel⟩
theorem dk_MO_goesIn (d : Nat) : dOK (d + 1) d m_MO_goesIn := ⟨Nat.le_refl _, by show 19 + 1 + 40 * d ≤ 40 * (d + 1); omega⟩
set_option maxRecDepth 100000 in
theorem lc_MO_goesIn : LkC m_MO_goesIn 0 := ⟨lwG_in (List.mem_of_getElem? (i := 1552) rfl) rfl, lwG_in (List.mem_of_getElem? (i := 124) rfl) rfl, by decide +kernel, by decide +kernel, by decide +kernel⟩
def m_MO_takes : MM := (11, ⟨"FrostBoxModel", "takes", "(I)Z"⟩, prog_13_method_13_code, 2, some .boolean, 0, 0)
theorem ok_MO_takes : mOK m_MO_takes := ⟨by decide +kernel, by decide +kernel⟩
theorem dk_MO_takes (d : Nat) : dOK (d + 1) d m_MO_takes := ⟨Nat.le_refl _, by show 19 + 2 + 40 * d ≤ 40 * (d + 1); omega⟩
set_option maxRecDepth 100000 in
theorem lc_MO_takes : LkC m_MO_takes 1 := ⟨lwG_in (List.mem_of_getElem? (i := 1524) rfl) rfl, lwG_in (List.mem_of_getElem? (i := 124) rfl) rfl, by decide +kernel, by decide +kernel, by decide +kernel⟩
def m_MO_isDigit : MM := (11, ⟨"FrostBoxModel", "isDigit", "()Z"⟩, prog_13_method_14_code, 1, some .boolean, 0, 0)
theorem ok_MO_isDigit : mOK m_MO_isDigit := ⟨by decide +kernel, by decide +kernel⟩
theorem dk_MO_isDigit (d : Nat) : dOK (d + 1) d m_MO_isDigit := ⟨Nat.le_refl _, by show 19 + 1 + 40 * d ≤ 40 * (d + 1); omega⟩
set_option maxRecDepth 100000 in
theorem lc_MO_isDigit : LkC m_MO_isDigit 0 := ⟨lwG_in (List.mem_of_getElem? (i := 1499) rfl) rfl, lwG_in (List.mem_of_getElem? (i := 124) rfl) rfl, by decide +kernel, by decide +kernel, by decide +kernel⟩
def m_MO_within : MM := (11, ⟨"FrostBoxModel", "within", "(J)I"⟩, prog_13_method_15_code, 2, some .int, 0, 0)
theorem ok_MO_within : mOK m_MO_within := ⟨by decide +kernel, by decide +kernel⟩
theorem dk_MO_within (d : Nat) : dOK (d + 1) d m_MO_within := ⟨Nat.le_refl _, by show 19 + 2 + 40 * d ≤ 40 * (d + 1); omega⟩
set_option maxRecDepth 100000 in
theorem lc_MO_within : LkC m_MO_within 1 := ⟨lwG_in (List.mem_of_getElem? (i := 1555) rfl) rfl, lwG_in (List.mem_of_getElem? (i := 124) rfl) rfl, by decide +kernel, by decide +kernel, by decide +kernel⟩
def m_MO_atom : MM := (11, ⟨"FrostBoxModel", "atom", "()I"⟩, prog_13_method_16_code, 4, some .int, 0, 0)
theorem ok_MO_atom : mOK m_MO_atom := ⟨by decide +kernel, by decide +kernel⟩
theorem dk_MO_atom (d : Nat) : dOK (d + 1) d m_MO_atom := ⟨Nat.le_refl _, by show 19 + 4 + 40 * d ≤ 40 * (d + 1); omega⟩
set_option maxRecDepth 100000 in
theorem lc_MO_atom : LkC m_MO_atom 0 := ⟨lwG_in (List.mem_of_getElem? (i := 1548) rfl) rfl, lwG_in (List.mem_of_getElem? (i := 124) rfl) rfl, by decide +kernel, by decide +kernel, by decide +kernel⟩
def m_MO_term : MM := (11, ⟨"FrostBoxModel", "term", "()I"⟩, prog_13_method_17_code, 5, some .int, 0, 0)
theorem ok_MO_term : mOK m_MO_term := ⟨by decide +kernel, by decide +kernel⟩
theorem dk_MO_term (d : Nat) : dOK (d + 1) d m_MO_term := ⟨Nat.le_refl _, by show 19 + 5 + 40 * d ≤ 40 * (d + 1); omega⟩
set_option maxRecDepth 100000 in
theorem lc_MO_term : LkC m_MO_term 0 := ⟨lwG_in (List.mem_of_getElem? (i := 1544) rfl) rfl, lwG_in (List.mem_of_getElem? (i := 124) rfl) rfl, by decide +kernel, by decide +kernel, by decide +kernel⟩
def m_MO_sum : MM := (11, ⟨"FrostBoxModel", "sum", "()I"⟩, prog_13_method_18_code, 5, some .int, 0, 0)
theorem ok_MO_sum : mOK m_MO_sum := ⟨by decide +kernel, by decide +kernel⟩
theorem dk_MO_sum (d : Nat) : dOK (d + 1) d m_MO_sum := ⟨Nat.le_refl _, by show 19 + 5 + 40 * d ≤ 40 * (d + 1); omega⟩
set_option maxRecDepth 100000 in
theorem lc_MO_sum : LkC m_MO_sum 0 := ⟨lwG_in (List.mem_of_getElem? (i := 1540) rfl) rfl, lwG_in (List.mem_of_getElem? (i := 124) rfl) rfl, by decide +kernel, by decide +kernel, by decide +kernel⟩
def m_MO_isSign : MM := (11, ⟨"FrostBoxModel", "isSign", "(I)Z"⟩, prog_13_method_19_code, 1, some .boolean, 0, 0)
theorem ok_MO_isSign : mOK m_MO_isSign := ⟨by decide +kernel, by decide +kernel⟩
theorem dk_MO_isSign (d : Nat) : dOK (d + 1) d m_MO_isSign := ⟨Nat.le_refl _, by show 19 + 1 + 40 * d ≤ 40 * (d + 1); omega⟩
set_option maxRecDepth 100000 in
theorem lc_MO_isSign : LkC m_MO_isSign 1 := ⟨lwG_in (List.mem_of_getElem? (i := 1562) rfl) rfl, lwG_in (List.mem_of_getElem? (i := 124) rfl) rfl, by decide +kernel, by decide +kernel, by decide +kernel⟩
def m_MO_compares : MM := (11, ⟨"FrostBoxModel", "compares", "(ZI)Z"⟩, prog_13_method_20_code, 6, some .boolean, 0, 0)
theorem ok_MO_compares : mOK m_MO_compares := ⟨by decide +kernel, by decide +kernel⟩
theorem dk_MO_compares (d : Nat) : dOK (d + 1) d m_MO_compares := ⟨Nat.le_refl _, by show 19 + 6 + 40 * d ≤ 40 * (d + 1); omega⟩
set_option maxRecDepth 100000 in
theorem lc_MO_compares : LkC m_MO_compares 2 := ⟨lwG_in (List.mem_of_getElem? (i := 1536) rfl) rfl, lwG_in (List.mem_of_getElem? (i := 124) rfl) rfl, by decide +kernel, by decide +kernel, by decide +kernel⟩
def m_MO_unit : MM := (11, ⟨"FrostBoxModel", "unit", "()Z"⟩, prog_13_method_21_code, 3, some .boolean, 0, 0)
theorem ok_MO_unit : mOK m_MO_unit := ⟨by decide +kernel, by decide +kernel⟩
theorem dk_MO_unit (d : Nat) : dOK (d + 1) d m_MO_unit := ⟨Nat.le_refl _, by show 19 + 3 + 40 * d ≤ 40 * (d + 1); omega⟩
set_option maxRecDepth 100000 in
theorem lc_MO_unit : LkC m_MO_unit 0 := ⟨lwG_in (List.mem_of_getElem? (i := 1566) rfl) rfl, lwG_in (List.mem_of_getElem? (i := 124) rfl) rfl, by decide +kernel, by decide +kernel, by decide +kernel⟩
def m_MO_part : MM := (11, ⟨"FrostBoxModel", "part", "(ZI)Z"⟩, prog_13_method_22_code, 5, some .boolean, 0, 0)
theorem ok_MO_part : mOK m_MO_part := ⟨by decide +kernel, by decide +kernel⟩
theorem dk_MO_part (d : Nat) : dOK (d + 1) d m_MO_part := ⟨Nat.le_refl _, by show 19 + 5 + 40 * d ≤ 40 * (d + 1); omega⟩
set_option maxRecDepth 100000 in
theorem lc_MO_part : LkC m_MO_part 2 := ⟨lwG_in (List.mem_of_getElem? (i := 1532) rfl) rfl, lwG_in (List.mem_of_getElem? (i := 124) rfl) rfl, by decide +kernel, by decide +kernel, by decide +kernel⟩
def m_MO_condition : MM := (11, ⟨"FrostBoxModel", "condition", "(ZI)Z"⟩, prog_13_method_23_code, 5, some .boolean, 0, 0)
theorem ok_MO_condition : mOK m_MO_condition := ⟨by decide +kernel, by decide +kernel⟩
theorem dk_MO_condition (d : Nat) : dOK (d + 1) d m_MO_condition := ⟨Nat.le_refl _, by show 19 + 5 + 40 * d ≤ 40 * (d + 1); omega⟩
set_option maxRecDepth 100000 in
theorem lc_MO_condition : LkC m_MO_condition 2 := ⟨lwG_in (List.mem_of_getElem? (i := 1528) rfl) rfl, lwG_in (List.mem_of_getElem? (i := 124) rfl) rfl, by decide +kernel, by decide +kernel, by decide +kernel⟩
def m_MO_clause : MM := (11, ⟨"FrostBoxModel", "clause", "()V"⟩, prog_13_method_24_code, 5, none, 0, 0)
theorem ok_MO_clause : mOK m_MO_clause := ⟨by decide +kernel, by decide +kernel⟩
theorem dk_MO_clause (d : Nat) : dOK (d + 1) d m_MO_clause := ⟨Nat.le_refl _, by show 19 + 5 + 40 * d ≤ 40 * (d + 1); omega⟩
set_option maxRecDepth 100000 in
theorem lc_MO_clause : LkC m_MO_clause 0 := ⟨lwG_in (List.mem_of_getElem? (i := 1517) rfl) rfl, lwG_in (List.mem_of_getElem? (i := 124) rfl) rfl, by decide +kernel, by decide +kernel, by decide +kernel⟩
def m_MO_starts : MM := (11, ⟨"FrostBoxModel", "starts", "([BII)V"⟩, prog_13_method_25_code, 4, none, 0, 0)
theorem ok_MO_starts : mOK m_MO_starts := ⟨by decide +kernel, by decide +kernel⟩
theorem dk_MO_starts (d : Nat) : dOK (d + 1) d m_MO_starts := ⟨Nat.le_refl _, by show 19 + 4 + 40 * d ≤ 40 * (d + 1); omega⟩
set_option maxRecDepth 100000 in
theorem lc_MO_starts : LkC m_MO_starts 3 := ⟨lwG_in (List.mem_of_getElem? (i := 1411) rfl) rfl, lwG_in (List.mem_of_getElem? (i := 124) rfl) rfl, by decide +kernel, by decide +kernel, by decide +kernel⟩
def m_MO_goThrough : MM := (11, ⟨"FrostBoxModel", "goThrough", "([BII)V"⟩, prog_13_method_26_code, 4, none, 0, 0)
theorem ok_MO_goThrough : mOK m_MO_goThrough := ⟨by decide +kernel, by decide +kernel⟩
theorem dk_MO_goThrough (d : Nat) : dOK (d + 1) d m_MO_goThrough := ⟨Nat.le_refl _, by show 19 + 4 + 40 * d ≤ 40 * (d + 1); omega⟩
set_option maxRecDepth 100000 in
theorem lc_MO_goThrough : LkC m_MO_goThrough 3 := ⟨lwG_in (List.mem_of_getElem? (i := 1513) rfl) rfl, lwG_in (List.mem_of_getElem? (i := 124) rfl) rfl, by decide +kernel, by decide +kernel, by decide +kernel⟩
def m_MO_here : MM := (11, ⟨"FrostBoxModel", "here", "()I"⟩, prog_13_method_27_code, 1, some .int, 0, 0)
theorem ok_MO_here : mOK m_MO_here := ⟨by decide +kernel, by decide +kernel⟩
theorem dk_MO_here (d : Nat) : dOK (d + 1) d m_MO_here := ⟨Nat.le_refl _, by show 19 + 1 + 40 * d ≤ 40 * (d + 1); omega⟩
set_option maxRecDepth 100000 in
theorem lc_MO_here : LkC m_MO_here 0 := ⟨lwG_in (List.mem_of_getElem? (i := 1503) rfl) rfl, lwG_in (List.mem_of_getElem? (i := 124) rfl) rfl, by decide +kernel, by decide +kernel, by decide +kernel⟩
def m_MO_spotOf : MM := (11, ⟨"FrostBoxModel", "spotOf", "(Ljava/lang/String;I)I"⟩, prog_13_method_28_code, 3, some .int, 0, 0)
theorem ok_MO_spotOf : mOK m_MO_spotOf := ⟨by decide +kernel, by decide +kernel⟩
theorem dk_MO_spotOf (d : Nat) : dOK (d + 1) d m_MO_spotOf := ⟨Nat.le_refl _, by show 19 + 3 + 40 * d ≤ 40 * (d + 1); omega⟩
set_option maxRecDepth 100000 in
theorem lc_MO_spotOf : LkC m_MO_spotOf 2 := ⟨lwG_in (List.mem_of_getElem? (i := 1444) rfl) rfl, lwG_in (List.mem_of_getElem? (i := 124) rfl) rfl, by decide +kernel, by decide +kernel, by decide +kernel⟩
def m_MO_number : MM := (11, ⟨"FrostBoxModel", "number", "(II)I"⟩, prog_13_method_29_code, 5, some .int, 0, 0)
theorem ok_MO_number : mOK m_MO_number := ⟨by decide +kernel, by decide +kernel⟩
theorem dk_MO_number (d : Nat) : dOK (d + 1) d m_MO_number := ⟨Nat.le_refl _, by show 19 + 5 + 40 * d ≤ 40 * (d + 1); omega⟩
set_option maxRecDepth 100000 in
theorem lc_MO_number : LkC m_MO_number 2 := ⟨lwG_in (List.mem_of_getElem? (i := 1495) rfl) rfl, lwG_in (List.mem_of_getElem? (i := 124) rfl) rfl, by decide +kernel, by decide +kernel, by decide +kernel⟩
def m_MO_mostOf : MM := (11, ⟨"FrostBoxModel", "mostOf", "(II)I"⟩, prog_13_method_30_code, 2, some .int, 0, 0)
theorem ok_MO_mostOf : mOK m_MO_mostOf := ⟨by decide +kernel, by decide +kernel⟩
theorem dk_MO_mostOf (d : Nat) : dOK (d + 1) d m_MO_mostOf := ⟨Nat.le_refl _, by show 19 + 2 + 40 * d ≤ 40 * (d + 1); omega⟩
set_option maxRecDepth 100000 in
theorem lc_MO_mostOf : LkC m_MO_mostOf 2 := ⟨lwG_in (List.mem_of_getElem? (i := 1491) rfl) rfl, lwG_in (List.mem_of_getElem? (i := 124) rfl) rfl, by decide +kernel, by decide +kernel, by decide +kernel⟩
def m_MO_leastOf : MM := (11, ⟨"FrostBoxModel", "leastOf", "(II)I"⟩, prog_13_method_31_code, 2, some .int, 0, 0)
theorem ok_MO_leastOf : mOK m_MO_leastOf := ⟨by decide +kernel, by decide +kernel⟩
theorem dk_MO_leastOf (d : Nat) : dOK (d + 1) d m_MO_leastOf := ⟨Nat.le_refl _, by show 19 + 2 + 40 * d ≤ 40 * (d + 1); omega⟩
set_option maxRecDepth 100000 in
theorem lc_MO_leastOf : LkC m_MO_leastOf 2 := ⟨lwG_in (List.mem_of_getElem? (i := 1488) rfl) rfl, lwG_in (List.mem_of_getElem? (i := 124) rfl) rfl, by decide +kernel, by decide +kernel, by decide +kernel⟩
def m_MO_usual : MM := (11, ⟨"FrostBoxModel", "usual", "(II)I"⟩, prog_13_method_32_code, 2, some .int, 0, 0)
theorem ok_MO_usual : mOK m_MO_usual := ⟨by decide +kernel, by decide +kernel⟩
theorem dk_MO_usual (d : Nat) : dOK (d + 1) d m_MO_usual := ⟨Nat.le_refl _, by show 19 + 2 + 40 * d ≤ 40 * (d + 1); omega⟩
set_option maxRecDepth 100000 in
theorem lc_MO_usual : LkC m_MO_usual 2 := ⟨lwG_in (List.mem_of_getElem? (i := 1414) rfl) rfl, lwG_in (List.mem_of_getElem? (i := 124) rfl) rfl, by decide +kernel, by decide +kernel, by decide +kernel⟩
def m_MO_readItems : MM := (11, ⟨"FrostBoxModel", "readItems", "(I[IILjava/lang/String;)V"⟩, prog_13_method_33_code, 7, none, 0, 0)
theorem ok_MO_readItems : mOK m_MO_readItems := ⟨by decide +kernel, by decide +kernel⟩
theorem dk_MO_readItems (d : Nat) : dOK (d + 1) d m_MO_readItems := ⟨Nat.le_refl _, by show 19 + 7 + 40 * d ≤ 40 * (d + 1); omega⟩
set_option maxRecDepth 100000 in
theorem lc_MO_readItems : LkC m_MO_readItems 4 := ⟨lwG_in (List.mem_of_getElem? (i := 1431) rfl) rfl, lwG_in (List.mem_of_getElem? (i := 124) rfl) rfl, by decide +kernel, by decide +kernel, by decide +kernel⟩
def m_MO_readClause : MM := (11, ⟨"FrostBoxModel", "readClause", "()V"⟩, prog_13_method_34_code, 3, none, 0, 0)
theorem ok_MO_readClause : mOK m_MO_readClause := ⟨by decide +kernel, by decide +kernel⟩
theorem dk_MO_readClause (d : Nat) : dOK (d + 1) d m_MO_readClause := ⟨Nat.le_refl _, by show 19 + 3 + 40 * d ≤ 40 * (d + 1); omega⟩
set_option maxRecDepth 100000 in
theorem lc_MO_readClause : LkC m_MO_readClause 0 := ⟨lwG_in (List.mem_of_getElem? (i := 1418) rfl) rfl, lwG_in (List.mem_of_getElem? (i := 124) rfl) rfl, by decide +kernel, by decide +kernel, by decide +kernel⟩
def m_MO_isWhole : MM := (11, ⟨"FrostBoxModel", "isWhole", "()Z"⟩, prog_13_method_35_code, 4, some .boolean, 0, 0)
theorem ok_MO_isWhole : mOK m_MO_isWhole := ⟨by decide +kernel, by decide +kernel⟩
theorem dk_MO_isWhole (d : Nat) : dOK (d + 1) d m_MO_isWhole := ⟨Nat.le_refl _, by show 19 + 4 + 40 * d ≤ 40 * (d + 1); omega⟩
set_option maxRecDepth 100000 in
theorem lc_MO_isWhole : LkC m_MO_isWhole 0 := ⟨lwG_in (List.mem_of_getElem? (i := 1509) rfl) rfl, lwG_in (List.mem_of_getElem? (i := 124) rfl) rfl, by decide +kernel, by decide +kernel, by decide +kernel⟩
def m_MO_readHouse : MM := (11, ⟨"FrostBoxModel", "readHouse", "()V"⟩, prog_13_method_36_code, 2, none, 0, 0)
theorem ok_MO_readHouse : mOK m_MO_readHouse := ⟨by decide +kernel, by decide +kernel⟩
theorem dk_MO_readHouse (d : Nat) : dOK (d + 1) d m_MO_readHouse := ⟨Nat.le_refl _, by show 19 + 2 + 40 * d ≤ 40 * (d + 1); omega⟩
set_option maxRecDepth 100000 in
theorem lc_MO_readHouse : LkC m_MO_readHouse 0 := ⟨lwG_in (List.mem_of_getElem? (i := 1407) rfl) rfl, lwG_in (List.mem_of_getElem? (i := 124) rfl) rfl, by decide +kernel, by decide +kernel, by decide +kernel⟩
def m_MO_digit : MM := (11, ⟨"FrostBoxModel", "digit", "(I)I"⟩, prog_13_method_37_code, 3, some .int, 0, 0)
theorem ok_MO_digit : mOK m_MO_digit := ⟨by decide +kernel, by decide +kernel⟩
theorem dk_MO_digit (d : Nat) : dOK (d + 1) d m_MO_digit := ⟨Nat.le_refl _, by show 19 + 3 + 40 * d ≤ 40 * (d + 1); omega⟩
set_option maxRecDepth 100000 in
theorem lc_MO_digit : LkC m_MO_digit 1 := ⟨lwG_in (List.mem_of_getElem? (i := 1579) rfl) rfl, lwG_in (List.mem_of_getElem? (i := 124) rfl) rfl, by decide +kernel, by decide +kernel, by decide +kernel⟩
def m_MO_readStep : MM := (11, ⟨"FrostBoxModel", "readStep", "(I)V"⟩, prog_13_method_38_code, 3, none, 0, 0)
theorem ok_MO_readStep : mOK m_MO_readStep := ⟨by decide +kernel, by decide +kernel⟩
theorem dk_MO_readStep (d : Nat) : dOK (d + 1) d m_MO_readStep := ⟨Nat.le_refl _, by show 19 + 3 + 40 * d ≤ 40 * (d + 1); omega⟩
set_option maxRecDepth 100000 in
theorem lc_MO_readStep : LkC m_MO_readStep 1 := ⟨lwG_in (List.mem_of_getElem? (i := 1574) rfl) rfl, lwG_in (List.mem_of_getElem? (i := 124) rfl) rfl, by decide +kernel, by decide +kernel, by decide +kernel⟩
def m_MO_readPlan : MM := (11, ⟨"FrostBoxModel", "readPlan", "()V"⟩, prog_13_method_39_code, 3, none, 0, 0)
theorem ok_MO_readPlan : mOK m_MO_readPlan := ⟨by decide +kernel, by decide +kernel⟩
theorem dk_MO_readPlan (d : Nat) : dOK (d + 1) d m_MO_readPlan := ⟨Nat.le_refl _, by show 19 + 3 + 40 * d ≤ 40 * (d + 1); omega⟩
set_option maxRecDepth 100000 in
theorem lc_MO_readPlan : LkC m_MO_readPlan 0 := ⟨lwG_in (List.mem_of_getElem? (i := 1570) rfl) rfl, lwG_in (List.mem_of_getElem? (i := 124) rfl) rfl, by decide +kernel, by decide +kernel, by decide +kernel⟩
def m_MO_fault : MM := (11, ⟨"FrostBoxModel", "fault", "(I)I"⟩, prog_13_method_40_code, 2, some .int, 0, 0)
theorem ok_MO_fault : mOK m_MO_fault := ⟨by decide +kernel, by decide +kernel⟩
theorem dk_MO_fault (d : Nat) : dOK (d + 1) d m_MO_fault := ⟨Nat.le_refl _, by show 19 + 2 + 40 * d ≤ 40 * (d + 1); omega⟩
set_option maxRecDepth 100000 in
theorem lc_MO_fault : LkC m_MO_fault 1 := ⟨lwG_in (List.mem_of_getElem? (i := 1399) rfl) rfl, lwG_in (List.mem_of_getElem? (i := 124) rfl) rfl, by decide +kernel, by decide +kernel, by decide +kernel⟩
def m_MO_text : MM := (11, ⟨"FrostBoxModel", "text", "(I)I"⟩, prog_13_method_41_code, 5, some .int, 0, 0)
theorem ok_MO_text : mOK m_MO_text := ⟨by decide +kernel, by decide +kernel⟩
theorem dk_MO_text (d : Nat) : dOK (d + 1) d m_MO_text := ⟨Nat.le_refl _, by show 19 + 5 + 40 * d ≤ 40 * (d + 1); omega⟩
set_option maxRecDepth 100000 in
theorem lc_MO_text : LkC m_MO_text 1 := ⟨lwG_in (List.mem_of_getElem? (i := 1583) rfl) rfl, lwG_in (List.mem_of_getElem? (i := 124) rfl) rfl, by decide +kernel, by decide +kernel, by decide +kernel⟩
def m_MO_copy : MM := (11, ⟨"FrostBoxModel", "copy", "([I[I)V"⟩, prog_13_method_42_code, 4, none, 0, 0)
theorem ok_MO_copy : mOK m_MO_copy := ⟨by decide +kernel, by decide +kernel⟩
theorem dk_MO_copy (d : Nat) : dOK (d + 1) d m_MO_copy := ⟨Nat.le_refl _, by show 19 + 4 + 40 * d ≤ 40 * (d + 1); omega⟩
set_option maxRecDepth 100000 in
theorem lc_MO_copy : LkC m_MO_copy 2 := ⟨lwG_in (List.mem_of_getElem? (i := 1751) rfl) rfl, lwG_in (List.mem_of_getElem? (i := 124) rfl) rfl, by decide +kernel, by decide +kernel, by decide +kernel⟩
def m_MO_isKind : MM := (11, ⟨"FrostBoxModel", "isKind", "(I)Z"⟩, prog_13_method_43_code, 2, some .boolean, 0, 0)
theorem ok_MO_isKind : mOK m_MO_isKind := ⟨by decide +kernel, by decide +kernel⟩
theorem dk_MO_isKind (d : Nat) : dOK (d + 1) d m_MO_isKind := ⟨Nat.le_refl _, by show 19 + 2 + 40 * d ≤ 40 * (d + 1); omega⟩
set_option maxRecDepth 100000 in
theorem lc_MO_isKind : LkC m_MO_isKind 1 := ⟨lwG_in (List.mem_of_getElem? (i := 1597) rfl) rfl, lwG_in (List.mem_of_getElem? (i := 124) rfl) rfl, by decide +kernel, by decide +kernel, by decide +kernel⟩
def m_MO_isBox : MM := (11, ⟨"FrostBoxModel", "isBox", "([II)Z"⟩, prog_13_method_44_code, 3, some .boolean, 0, 0)
theorem ok_MO_isBox : mOK m_MO_isBox := ⟨by decide +kernel, by decide +kernel⟩
theorem dk_MO_isBox (d : Nat) : dOK (d + 1) d m_MO_isBox := ⟨Nat.le_refl _, by show 19 + 3 + 40 * d ≤ 40 * (d + 1); omega⟩
set_option maxRecDepth 100000 in
theorem lc_MO_isBox : LkC m_MO_isBox 2 := ⟨lwG_in (List.mem_of_getElem? (i := 1610) rfl) rfl, lwG_in (List.mem_of_getElem? (i := 124) rfl) rfl, by decide +kernel, by decide +kernel, by decide +kernel⟩
def m_MO_told : MM := (11, ⟨"FrostBoxModel", "told", "(II)I"⟩, prog_13_method_45_code, 3, some .int, 0, 0)
theorem ok_MO_told : mOK m_MO_told := ⟨by decide +kernel, by decide +kernel⟩
theorem dk_MO_told (d : Nat) : dOK (d + 1) d m_MO_told := ⟨Nat.le_refl _, by show 19 + 3 + 40 * d ≤ 40 * (d + 1); omega⟩
set_option maxRecDepth 100000 in
theorem lc_MO_told : LkC m_MO_told 2 := ⟨lwG_in (List.mem_of_getElem? (i := 1602) rfl) rfl, lwG_in (List.mem_of_getElem? (i := 124) rfl) rfl, by decide +kernel, by decide +kernel, by decide +kernel⟩
def m_MO_portionOf : MM := (11, ⟨"FrostBoxModel", "portionOf", "(IIIII)I"⟩, prog_13_method_46_code, 7, some .int, 0, 0)
theorem ok_MO_portionOf : mOK m_MO_portionOf := ⟨by decide +kernel, by decide +kernel⟩
theorem dk_MO_portionOf (d : Nat) : dOK (d + 1) d m_MO_portionOf := ⟨Nat.le_refl _, by show 19 + 7 + 40 * d ≤ 40 * (d + 1); omega⟩
set_option maxRecDepth 100000 in
theorem lc_MO_portionOf : LkC m_MO_portionOf 5 := ⟨lwG_in (List.mem_of_getElem? (i := 1624) rfl) rfl, lwG_in (List.mem_of_getElem? (i := 124) rfl) rfl, by decide +kernel, by decide +kernel, by decide +kernel⟩
def m_MO_worthNow : MM := (11, ⟨"FrostBoxModel", "worthNow", "()I"⟩, prog_13_method_47_code, 4, some .int, 0, 0)
theorem ok_MO_worthNow : mOK m_MO_worthNow := ⟨by decide +kernel, by decide +kernel⟩
theorem dk_MO_worthNow (d : Nat) : dOK (d + 1) d m_MO_worthNow := ⟨Nat.le_refl _, by show 19 + 4 + 40 * d ≤ 40 * (d + 1); omega⟩
set_option maxRecDepth 100000 in
theorem lc_MO_worthNow : LkC m_MO_worthNow 0 := ⟨lwG_in (List.mem_of_getElem? (i := 1629) rfl) rfl, lwG_in (List.mem_of_getElem? (i := 124) rfl) rfl, by decide +kernel, by decide +kernel, by decide +kernel⟩
def m_MO_valueOn : MM := (11, ⟨"FrostBoxModel", "valueOn", "([IIII)I"⟩, prog_13_method_48_code, 6, some .int, 0, 0)
theorem ok_MO_valueOn : mOK m_MO_valueOn := ⟨by decide +kernel, by decide +kernel⟩
theorem dk_MO_valueOn (d : Nat) : dOK (d + 1) d m_MO_valueOn := ⟨Nat.le_refl _, by show 19 + 6 + 40 * d ≤ 40 * (d + 1); omega⟩
set_option maxRecDepth 100000 in
theorem lc_MO_valueOn : LkC m_MO_valueOn 4 := ⟨lwG_in (List.mem_of_getElem? (i := 1619) rfl) rfl, lwG_in (List.mem_of_getElem? (i := 124) rfl) rfl, by decide +kernel, by decide +kernel, by decide +kernel⟩
def m_MO_valueOf : MM := (11, ⟨"FrostBoxModel", "valueOf", "([II)I"⟩, prog_13_method_49_code, 3, some .int, 0, 0)
theorem ok_MO_valueOf : mOK m_MO_valueOf := ⟨by decide +kernel, by decide +kernel⟩
theorem dk_MO_valueOf (d : Nat) : dOK (d + 1) d m_MO_valueOf := ⟨Nat.le_refl _, by show 19 + 3 + 40 * d ≤ 40 * (d + 1); omega⟩
set_option maxRecDepth 100000 in
theorem lc_MO_valueOf : LkC m_MO_valueOf 2 := ⟨lwG_in (List.mem_of_getElem? (i := 1615) rfl) rfl, lwG_in (List.mem_of_getElem? (i := 124) rfl) rfl, by decide +kernel, by decide +kernel, by decide +kernel⟩
def m_MO_sumIn : MM := (11, ⟨"FrostBoxModel", "sumIn", "([I)I"⟩, prog_13_method_50_code, 4, some .int, 0, 0)
theorem ok_MO_sumIn : mOK m_MO_sumIn := ⟨by decide +kernel, by decide +kernel⟩
theorem dk_MO_sumIn (d : Nat) : dOK (d + 1) d m_MO_sumIn := ⟨Nat.le_refl _, by show 19 + 4 + 40 * d ≤ 40 * (d + 1); omega⟩
set_option maxRecDepth 100000 in
theorem lc_MO_sumIn : LkC m_MO_sumIn 1 := ⟨lwG_in (List.mem_of_getElem? (i := 1659) rfl) rfl, lwG_in (List.mem_of_getElem? (i := 124) rfl) rfl, by decide +kernel, by decide +kernel, by decide +kernel⟩
def m_MO_valueIn : MM := (11, ⟨"FrostBoxModel", "valueIn", "([I)I"⟩, prog_13_method_51_code, 4, some .int, 0, 0)
theorem ok_MO_valueIn : mOK m_MO_valueIn := ⟨by decide +kernel, by decide +kernel⟩
theorem dk_MO_valueIn (d : Nat) : dOK (d + 1) d m_MO_valueIn := ⟨Nat.le_refl _, by show 19 + 4 + 40 * d ≤ 40 * (d + 1); omega⟩
set_option maxRecDepth 100000 in
theorem lc_MO_valueIn : LkC m_MO_valueIn 1 := ⟨lwG_in (List.mem_of_getElem? (i := 1805) rfl) rfl, lwG_in (List.mem_of_getElem? (i := 124) rfl) rfl, by decide +kernel, by decide +kernel, by decide +kernel⟩
def m_MO_weightOf : MM := (11, ⟨"FrostBoxModel", "weightOf", "([II)I"⟩, prog_13_method_52_code, 3, some .int, 0, 0)
theorem ok_MO_weightOf : mOK m_MO_weightOf := ⟨by decide +kernel, by decide +kernel⟩
theorem dk_MO_weightOf (d : Nat) : dOK (d + 1) d m_MO_weightOf := ⟨Nat.le_refl _, by show 19 + 3 + 40 * d ≤ 40 * (d + 1); omega⟩
set_option maxRecDepth 100000 in
theorem lc_MO_weightOf : LkC m_MO_weightOf 2 := ⟨lwG_in (List.mem_of_getElem? (i := 1638) rfl) rfl, lwG_in (List.mem_of_getElem? (i := 124) rfl) rfl, by decide +kernel, by decide +kernel, by decide +kernel⟩
def m_MO_rule : MM := (11, ⟨"FrostBoxModel", "rule", "(I)I"⟩, prog_13_method_53_code, 2, some .int, 0, 0)
theorem ok_MO_rule : mOK m_MO_rule := ⟨by decide +kernel, by decide +kernel⟩
theorem dk_MO_rule (d : Nat) : dOK (d + 1) d m_MO_rule := ⟨Nat.le_refl _, by show 19 + 2 + 40 * d ≤ 40 * (d + 1); omega⟩
set_option maxRecDepth 100000 in
theorem lc_MO_rule : LkC m_MO_rule 1 := ⟨lwG_in (List.mem_of_getElem? (i := 1588) rfl) rfl, lwG_in (List.mem_of_getElem? (i := 124) rfl) rfl, by decide +kernel, by decide +kernel, by decide +kernel⟩
def m_MO_kind : MM := (11, ⟨"FrostBoxModel", "kind", "(II)I"⟩, prog_13_method_54_code, 3, some .int, 0, 0)
theorem ok_MO_kind : mOK m_MO_kind := ⟨by decide +kernel, by decide +kernel⟩
theorem dk_MO_kind (d : Nat) : dOK (d + 1) d m_MO_kind := ⟨Nat.le_refl _, by show 19 + 3 + 40 * d ≤ 40 * (d + 1); omega⟩
set_option maxRecDepth 100000 in
theorem lc_MO_kind : LkC m_MO_kind 2 := ⟨lwG_in (List.mem_of_getElem? (i := 1593) rfl) rfl, lwG_in (List.mem_of_getElem? (i := 124) rfl) rfl, by decide +kernel, by decide +kernel, by decide +kernel⟩
def m_MO_box : MM := (11, ⟨"FrostBoxModel", "box", "(II)I"⟩, prog_13_method_55_code, 3, some .int, 0, 0)
theorem ok_MO_box : mOK m_MO_box := ⟨by decide +kernel, by decide +kernel⟩
theorem dk_MO_box (d : Nat) : dOK (d + 1) d m_MO_box := ⟨Nat.le_refl _, by show 19 + 3 + 40 * d ≤ 40 * (d + 1); omega⟩
set_option maxRecDepth 100000 in
theorem lc_MO_box : LkC m_MO_box 2 := ⟨lwG_in (List.mem_of_getElem? (i := 1606) rfl) rfl, lwG_in (List.mem_of_getElem? (i := 124) rfl) rfl, by decide +kernel, by decide +kernel, by decide +kernel⟩
def m_MO_law : MM := (11, ⟨"FrostBoxModel", "law", "(I)Z"⟩, prog_13_method_56_code, 2, some .boolean, 0, 0)
theorem ok_MO_law : mOK m_MO_law := ⟨by decide +kernel, by decide +kernel⟩
theorem dk_MO_law (d : Nat) : dOK (d + 1) d m_MO_law := ⟨Nat.le_refl _, by show 19 + 2 + 40 * d ≤ 40 * (d + 1); omega⟩
set_option maxRecDepth 100000 in
theorem lc_MO_law : LkC m_MO_law 1 := ⟨lwG_in (List.mem_of_getElem? (i := 1642) rfl) rfl, lwG_in (List.mem_of_getElem? (i := 124) rfl) rfl, by decide +kernel, by decide +kernel, by decide +kernel⟩
def m_MO_habit : MM := (11, ⟨"FrostBoxModel", "habit", "(I)Z"⟩, prog_13_method_57_code, 2, some .boolean, 0, 0)
theorem ok_MO_habit : mOK m_MO_habit := ⟨by decide +kernel, by decide +kernel⟩
theorem dk_MO_habit (d : Nat) : dOK (d + 1) d m_MO_habit := ⟨Nat.le_refl _, by show 19 + 2 + 40 * d ≤ 40 * (d + 1); omega⟩
set_option maxRecDepth 100000 in
theorem lc_MO_habit : LkC m_MO_habit 1 := ⟨lwG_in (List.mem_of_getElem? (i := 1646) rfl) rfl, lwG_in (List.mem_of_getElem? (i := 124) rfl) rfl, by decide +kernel, by decide +kernel, by decide +kernel⟩
def m_MO_remember : MM := (11, ⟨"FrostBoxModel", "remember", "()V"⟩, prog_13_method_58_code, 2, none, 0, 0)
theorem ok_MO_remember : mOK m_MO_remember := ⟨by decide +kernel, by decide +kernel⟩
theorem dk_MO_remember (d : Nat) : dOK (d + 1) d m_MO_remember := ⟨Nat.le_refl _, by show 19 + 2 + 40 * d ≤ 40 * (d + 1); omega⟩
set_option maxRecDepth 100000 in
theorem lc_MO_remember : LkC m_MO_remember 0 := ⟨lwG_in (List.mem_of_getElem? (i := 1663) rfl) rfl, lwG_in (List.mem_of_getElem? (i := 124) rfl) rfl, by decide +kernel, by decide +kernel, by decide +kernel⟩
def m_MO_canPut : MM := (11, ⟨"FrostBoxModel", "canPut", "([III)Z"⟩, prog_13_method_59_code, 4, some .boolean, 0, 0)
theorem ok_MO_canPut : mOK m_MO_canPut := ⟨by decide +kernel, by decide +kernel⟩
theorem dk_MO_canPut (d : Nat) : dOK (d + 1) d m_MO_canPut := ⟨Nat.le_refl _, by show 19 + 4 + 40 * d ≤ 40 * (d + 1); omega⟩
set_option maxRecDepth 100000 in
theorem lc_MO_canPut : LkC m_MO_canPut 3 := ⟨lwG_in (List.mem_of_getElem? (i := 1655) rfl) rfl, lwG_in (List.mem_of_getElem? (i := 124) rfl) rfl, by decide +kernel, by decide +kernel, by decide +kernel⟩
def m_MO_puts : MM := (11, ⟨"FrostBoxModel", "puts", "([IIII)V"⟩, prog_13_method_60_code, 5, none, 0, 0)
theorem ok_MO_puts : mOK m_MO_puts := ⟨by decide +kernel, by decide +kernel⟩
theorem dk_MO_puts (d : Nat) : dOK (d + 1) d m_MO_puts := ⟨Nat.le_refl _, by show 19 + 5 + 40 * d ≤ 40 * (d + 1); omega⟩
set_option maxRecDepth 100000 in
theorem lc_MO_puts : LkC m_MO_puts 4 := ⟨lwG_in (List.mem_of_getElem? (i := 1666) rfl) rfl, lwG_in (List.mem_of_getElem? (i := 124) rfl) rfl, by decide +kernel, by decide +kernel, by decide +kernel⟩
def m_MO_put3 : MM := (11, ⟨"FrostBoxModel", "put", "(IIZ)I"⟩, prog_13_method_61_code, 4, some .int, 0, 0)
theorem ok_MO_put3 : mOK m_MO_put3 := ⟨by decide +kernel, by decide +kernel⟩
theorem dk_MO_put3 (d : Nat) : dOK (d + 1) d m_MO_put3 := ⟨Nat.le_refl _, by show 19 + 4 + 40 * d ≤ 40 * (d + 1); omega⟩
set_option maxRecDepth 100000 in
theorem lc_MO_put3 : LkC m_MO_put3 3 := ⟨lwG_in (List.mem_of_getElem? (i := 1651) rfl) rfl, lwG_in (List.mem_of_getElem? (i := 124) rfl) rfl, by decide +kernel, by decide +kernel, by decide +kernel⟩
def m_MO_drops : MM := (11, ⟨"FrostBoxModel", "drops", "([II)V"⟩, prog_13_method_62_code, 3, none, 0, 0)
theorem ok_MO_drops : mOK m_MO_drops := ⟨by decide +kernel, by decide +kernel⟩
theorem dk_MO_drops (d : Nat) : dOK (d + 1) d m_MO_drops := ⟨Nat.le_refl _, by show 19 + 3 + 40 * d ≤ 40 * (d + 1); omega⟩
set_option maxRecDepth 100000 in
theorem lc_MO_drops : LkC m_MO_drops 2 := ⟨lwG_in (List.mem_of_getElem? (i := 1677) rfl) rfl, lwG_in (List.mem_of_getElem? (i := 124) rfl) rfl, by decide +kernel, by decide +kernel, by decide +kernel⟩
def m_MO_eats : MM := (11, ⟨"FrostBoxModel", "eats", "([II)I"⟩, prog_13_method_63_code, 5, some .int, 0, 0)
theorem ok_MO_eats : mOK m_MO_eats := ⟨by decide +kernel, by decide +kernel⟩
theorem dk_MO_eats (d : Nat) : dOK (d + 1) d m_MO_eats := ⟨Nat.le_refl _, by show 19 + 5 + 40 * d ≤ 40 * (d + 1); omega⟩
set_option maxRecDepth 100000 in
theorem lc_MO_eats : LkC m_MO_eats 2 := ⟨lwG_in (List.mem_of_getElem? (i := 1674) rfl) rfl, lwG_in (List.mem_of_getElem? (i := 124) rfl) rfl, by decide +kernel, by decide +kernel, by decide +kernel⟩
def m_MO_take : MM := (11, ⟨"FrostBoxModel", "take", "(I)I"⟩, prog_13_method_64_code, 2, some .int, 0, 0)
theorem ok_MO_take : mOK m_MO_take := ⟨by decide +kernel, by decide +kernel⟩
theorem dk_MO_take (d : Nat) : dOK (d + 1) d m_MO_take := ⟨Nat.le_refl _, by show 19 + 2 + 40 * d ≤ 40 * (d + 1); omega⟩
set_option maxRecDepth 100000 in
theorem lc_MO_take : LkC m_MO_take 1 := ⟨lwG_in (List.mem_of_getElem? (i := 1670) rfl) rfl, lwG_in (List.mem_of_getElem? (i := 124) rfl) rfl, by decide +kernel, by decide +kernel, by decide +kernel⟩
def m_MO_canLabel : MM := (11, ⟨"FrostBoxModel", "canLabel", "([II)Z"⟩, prog_13_method_65_code, 3, some .boolean, 0, 0)
theorem ok_MO_canLabel : mOK m_MO_canLabel := ⟨by decide +kernel, by decide +kernel⟩
theorem dk_MO_canLabel (d : Nat) : dOK (d + 1) d m_MO_canLabel := ⟨Nat.le_refl _, by show 19 + 3 + 40 * d ≤ 40 * (d + 1); omega⟩
set_option maxRecDepth 100000 in
theorem lc_MO_canLabel : LkC m_MO_canLabel 2 := ⟨lwG_in (List.mem_of_getElem? (i := 1685) rfl) rfl, lwG_in (List.mem_of_getElem? (i := 124) rfl) rfl, by decide +kernel, by decide +kernel, by decide +kernel⟩
def m_MO_names : MM := (11, ⟨"FrostBoxModel", "names", "([II)V"⟩, prog_13_method_66_code, 2, none, 0, 0)
theorem ok_MO_names : mOK m_MO_names := ⟨by decide +kernel, by decide +kernel⟩
theorem dk_MO_names (d : Nat) : dOK (d + 1) d m_MO_names := ⟨Nat.le_refl _, by show 19 + 2 + 40 * d ≤ 40 * (d + 1); omega⟩
set_option maxRecDepth 100000 in
theorem lc_MO_names : LkC m_MO_names 2 := ⟨lwG_in (List.mem_of_getElem? (i := 1688) rfl) rfl, lwG_in (List.mem_of_getElem? (i := 124) rfl) rfl, by decide +kernel, by decide +kernel, by decide +kernel⟩
def m_MO_label : MM := (11, ⟨"FrostBoxModel", "label", "(I)Z"⟩, prog_13_method_67_code, 2, some .boolean, 0, 0)
theorem ok_MO_label : mOK m_MO_label := ⟨by decide +kernel, by decide +kernel⟩
theorem dk_MO_label (d : Nat) : dOK (d + 1) d m_MO_label := ⟨Nat.le_refl _, by show 19 + 2 + 40 * d ≤ 40 * (d + 1); omega⟩
set_option maxRecDepth 100000 in
theorem lc_MO_label : LkC m_MO_label 1 := ⟨lwG_in (List.mem_of_getElem? (i := 1681) rfl) rfl, lwG_in (List.mem_of_getElem? (i := 124) rfl) rfl, by decide +kernel, by decide +kernel, by decide +kernel⟩
def m_MO_ages : MM := (11, ⟨"FrostBoxModel", "ages", "([II)V"⟩, prog_13_method_68_code, 4, none, 0, 0)
theorem ok_MO_ages : mOK m_MO_ages := ⟨by decide +kernel, by decide +kernel⟩
theorem dk_MO_ages (d : Nat) : dOK (d + 1) d m_MO_ages := ⟨Nat.le_refl _, by show 19 + 4 + 40 * d ≤ 40 * (d + 1); omega⟩
set_option maxRecDepth 100000 in
theorem lc_MO_ages : LkC m_MO_ages 2 := ⟨lwG_in (List.mem_of_getElem? (i := 1704) rfl) rfl, lwG_in (List.mem_of_getElem? (i := 124) rfl) rfl, by decide +kernel, by decide +kernel, by decide +kernel⟩
def m_MO_goMonth : MM := (11, ⟨"FrostBoxModel", "goMonth", "([I)V"⟩, prog_13_method_69_code, 3, none, 0, 0)
theorem ok_MO_goMonth : mOK m_MO_goMonth := ⟨by decide +kernel, by decide +kernel⟩
theorem dk_MO_goMonth (d : Nat) : dOK (d + 1) d m_MO_goMonth := ⟨Nat.le_refl _, by show 19 + 3 + 40 * d ≤ 40 * (d + 1); omega⟩
set_option maxRecDepth 100000 in
theorem lc_MO_goMonth : LkC m_MO_goMonth 1 := ⟨lwG_in (List.mem_of_getElem? (i := 1700) rfl) rfl, lwG_in (List.mem_of_getElem? (i := 124) rfl) rfl, by decide +kernel, by decide +kernel, by decide +kernel⟩
def m_MO_mayPass : MM := (11, ⟨"FrostBoxModel", "mayPass", "([III)Z"⟩, prog_13_method_70_code, 4, some .boolean, 0, 0)
theorem ok_MO_mayPass : mOK m_MO_mayPass := ⟨by decide +kernel, by decide +kernel⟩
theorem dk_MO_mayPass (d : Nat) : dOK (d + 1) d m_MO_mayPass := ⟨Nat.le_refl _, by show 19 + 4 + 40 * d ≤ 40 * (d + 1); omega⟩
set_option maxRecDepth 100000 in
theorem lc_MO_mayPass : LkC m_MO_mayPass 3 := ⟨lwG_in (List.mem_of_getElem? (i := 1696) rfl) rfl, lwG_in (List.mem_of_getElem? (i := 124) rfl) rfl, by decide +kernel, by decide +kernel, by decide +kernel⟩
def m_MO_months : MM := (11, ⟨"FrostBoxModel", "months", "(I)I"⟩, prog_13_method_71_code, 3, some .int, 0, 0)
theorem ok_MO_months : mOK m_MO_months := ⟨by decide +kernel, by decide +kernel⟩
theorem dk_MO_months (d : Nat) : dOK (d + 1) d m_MO_months := ⟨Nat.le_refl _, by show 19 + 3 + 40 * d ≤ 40 * (d + 1); omega⟩
set_option maxRecDepth 100000 in
theorem lc_MO_months : LkC m_MO_months 1 := ⟨lwG_in (List.mem_of_getElem? (i := 1692) rfl) rfl, lwG_in (List.mem_of_getElem? (i := 124) rfl) rfl, by decide +kernel, by decide +kernel, by decide +kernel⟩
def m_MO_moreThanBorne : MM := (11, ⟨"FrostBoxModel", "moreThanBorne", "(II)I"⟩, prog_13_method_72_code, 3, some .int, 0, 0)
theorem ok_MO_moreThanBorne : mOK m_MO_moreThanBorne := ⟨by decide +kernel, by decide +kernel⟩
theorem dk_MO_moreThanBorne (d : Nat) : dOK (d + 1) d m_MO_moreThanBorne := ⟨Nat.le_refl _, by show 19 + 3 + 40 * d ≤ 40 * (d + 1); omega⟩
set_option maxRecDepth 100000 in
theorem lc_MO_moreThanBorne : LkC m_MO_moreThanBorne 2 := ⟨lwG_in (List.mem_of_getElem? (i := 1717) rfl) rfl, lwG_in (List.mem_of_getElem? (i := 124) rfl) rfl, by decide +kernel, by decide +kernel, by decide +kernel⟩
def m_MO_isHours : MM := (11, ⟨"FrostBoxModel", "isHours", "(I)Z"⟩, prog_13_method_73_code, 2, some .boolean, 0, 0)
theorem ok_MO_isHours : mOK m_MO_isHours := ⟨by decide +kernel, by decide +kernel⟩
theorem dk_MO_isHours (d : Nat) : dOK (d + 1) d m_MO_isHours := ⟨Nat.le_refl _, by show 19 + 2 + 40 * d ≤ 40 * (d + 1); omega⟩
set_option maxRecDepth 100000 in
theorem lc_MO_isHours : LkC m_MO_isHours 1 := ⟨lwG_in (List.mem_of_getElem? (i := 1712) rfl) rfl, lwG_in (List.mem_of_getElem? (i := 124) rfl) rfl, by decide +kernel, by decide +kernel, by decide +kernel⟩
def m_MO_off : MM := (11, ⟨"FrostBoxModel", "off", "(I)I"⟩, prog_13_method_74_code, 3, some .int, 0, 0)
theorem ok_MO_off : mOK m_MO_off := ⟨by decide +kernel, by decide +kernel⟩
theorem dk_MO_off (d : Nat) : dOK (d + 1) d m_MO_off := ⟨Nat.le_refl _, by show 19 + 3 + 40 * d ≤ 40 * (d + 1); omega⟩
set_option maxRecDepth 100000 in
theorem lc_MO_off : LkC m_MO_off 1 := ⟨lwG_in (List.mem_of_getElem? (i := 1708) rfl) rfl, lwG_in (List.mem_of_getElem? (i := 124) rfl) rfl, by decide +kernel, by decide +kernel, by decide +kernel⟩
def m_MO_draw : MM := (11, ⟨"FrostBoxModel", "draw", "(I)I"⟩, prog_13_method_75_code, 2, some .int, 0, 0)
theorem ok_MO_draw : mOK m_MO_draw := ⟨by decide +kernel, by decide +kernel⟩
theorem dk_MO_draw (d : Nat) : dOK (d + 1) d m_MO_draw := ⟨Nat.le_refl _, by show 19 + 2 + 40 * d ≤ 40 * (d + 1); omega⟩
set_option maxRecDepth 100000 in
theorem lc_MO_draw : LkC m_MO_draw 1 := ⟨lwG_in (List.mem_of_getElem? (i := 1725) rfl) rfl, lwG_in (List.mem_of_getElem? (i := 124) rfl) rfl, by decide +kernel, by decide +kernel, by decide +kernel⟩
def m_MO_years : MM := (11, ⟨"FrostBoxModel", "years", "(IJ)I"⟩, prog_13_method_76_code, 10, some .int, 0, 0)
theorem ok_MO_years : mOK m_MO_years := ⟨by decide +kernel, by decide +kernel⟩
theorem dk_MO_years (d : Nat) : dOK (d + 1) d m_MO_years := ⟨Nat.le_refl _, by show 19 + 10 + 40 * d ≤ 40 * (d + 1); omega⟩
set_option maxRecDepth 100000 in
theorem lc_MO_years : LkC m_MO_years 2 := ⟨lwG_in (List.mem_of_getElem? (i := 1721) rfl) rfl, lwG_in (List.mem_of_getElem? (i := 124) rfl) rfl, by decide +kernel, by decide +kernel, by decide +kernel⟩
def m_MO_undo : MM := (11, ⟨"FrostBoxModel", "undo", "()I"⟩, prog_13_method_77_code, 2, some .int, 0, 0)
theorem ok_MO_undo : mOK m_MO_undo := ⟨by decide +kernel, by decide +kernel⟩
theorem dk_MO_undo (d : Nat) : dOK (d + 1) d m_MO_undo := ⟨Nat.le_refl _, by show 19 + 2 + 40 * d ≤ 40 * (d + 1); omega⟩
set_option maxRecDepth 100000 in
theorem lc_MO_undo : LkC m_MO_undo 0 := ⟨lwG_in (List.mem_of_getElem? (i := 1731) rfl) rfl, lwG_in (List.mem_of_getElem? (i := 124) rfl) rfl, by decide +kernel, by decide +kernel, by decide +kernel⟩
def m_MO_log : MM := (11, ⟨"FrostBoxModel", "log", "(II)I"⟩, prog_13_method_78_code, 3, some .int, 0, 0)
theorem ok_MO_log : mOK m_MO_log := ⟨by decide +kernel, by decide +kernel⟩
theorem dk_MO_log (d : Nat) : dOK (d + 1) d m_MO_log := ⟨Nat.le_refl _, by show 19 + 3 + 40 * d ≤ 40 * (d + 1); omega⟩
set_option maxRecDepth 100000 in
theorem lc_MO_log : LkC m_MO_log 2 := ⟨lwG_in (List.mem_of_getElem? (i := 1735) rfl) rfl, lwG_in (List.mem_of_getElem? (i := 124) rfl) rfl, by decide +kernel, by decide +kernel, by decide +kernel⟩
def m_MO_isPlan : MM := (11, ⟨"FrostBoxModel", "isPlan", "(I)Z"⟩, prog_13_method_79_code, 2, some .boolean, 0, 0)
theorem ok_MO_isPlan : mOK m_MO_isPlan := ⟨by decide +kernel, by decide +kernel⟩
theorem dk_MO_isPlan (d : Nat) : dOK (d + 1) d m_MO_isPlan := ⟨Nat.le_refl _, by show 19 + 2 + 40 * d ≤ 40 * (d + 1); omega⟩
set_option maxRecDepth 100000 in
theorem lc_MO_isPlan : LkC m_MO_isPlan 1 := ⟨lwG_in (List.mem_of_getElem? (i := 1743) rfl) rfl, lwG_in (List.mem_of_getElem? (i := 124) rfl) rfl, by decide +kernel, by decide +kernel, by decide +kernel⟩
def m_MO_step : MM := (11, ⟨"FrostBoxModel", "step", "(III)I"⟩, prog_13_method_80_code, 4, some .int, 0, 0)
theorem ok_MO_step : mOK m_MO_step := ⟨by decide +kernel, by decide +kernel⟩
theorem dk_MO_step (d : Nat) : dOK (d + 1) d m_MO_step := ⟨Nat.le_refl _, by show 19 + 4 + 40 * d ≤ 40 * (d + 1); omega⟩
set_option maxRecDepth 100000 in
theorem lc_MO_step : LkC m_MO_step 3 := ⟨lwG_in (List.mem_of_getElem? (i := 1739) rfl) rfl, lwG_in (List.mem_of_getElem? (i := 124) rfl) rfl, by decide +kernel, by decide +kernel, by decide +kernel⟩
def m_MO_canStep : MM := (11, ⟨"FrostBoxModel", "canStep", "([II)Z"⟩, prog_13_method_81_code, 4, some .boolean, 0, 0)
theorem ok_MO_canStep : mOK m_MO_canStep := ⟨by decide +kernel, by decide +kernel⟩
theorem dk_MO_canStep (d : Nat) : dOK (d + 1) d m_MO_canStep := ⟨Nat.le_refl _, by show 19 + 4 + 40 * d ≤ 40 * (d + 1); omega⟩
set_option maxRecDepth 100000 in
theorem lc_MO_canStep : LkC m_MO_canStep 2 := ⟨lwG_in (List.mem_of_getElem? (i := 1755) rfl) rfl, lwG_in (List.mem_of_getElem? (i := 124) rfl) rfl, by decide +kernel, by decide +kernel, by decide +kernel⟩
def m_MO_steps : MM := (11, ⟨"FrostBoxModel", "steps", "([II)I"⟩, prog_13_method_82_code, 4, some .int, 0, 0)
theorem ok_MO_steps : mOK m_MO_steps := ⟨by decide +kernel, by decide +kernel⟩
theorem dk_MO_steps (d : Nat) : dOK (d + 1) d m_MO_steps := ⟨Nat.le_refl _, by show 19 + 4 + 40 * d ≤ 40 * (d + 1); omega⟩
set_option maxRecDepth 100000 in
theorem lc_MO_steps : LkC m_MO_steps 2 := ⟨lwG_in (List.mem_of_getElem? (i := 1763) rfl) rfl, lwG_in (List.mem_of_getElem? (i := 124) rfl) rfl, by decide +kernel, by decide +kernel, by decide +kernel⟩
def m_MO_timesOf : MM := (11, ⟨"FrostBoxModel", "timesOf", "(I)I"⟩, prog_13_method_83_code, 2, some .int, 0, 0)
theorem ok_MO_timesOf : mOK m_MO_timesOf := ⟨by decide +kernel, by decide +kernel⟩
theorem dk_MO_timesOf (d : Nat) : dOK (d + 1) d m_MO_timesOf := ⟨Nat.le_refl _, by show 19 + 2 + 40 * d ≤ 40 * (d + 1); omega⟩
set_option maxRecDepth 100000 in
theorem lc_MO_timesOf : LkC m_MO_timesOf 1 := ⟨lwG_in (List.mem_of_getElem? (i := 1759) rfl) rfl, lwG_in (List.mem_of_getElem? (i := 124) rfl) rfl, by decide +kernel, by decide +kernel, by decide +kernel⟩
def m_MO_run : MM := (11, ⟨"FrostBoxModel", "run", "(II)I"⟩, prog_13_method_84_code, 7, some .int, 0, 0)
theorem ok_MO_run : mOK m_MO_run := ⟨by decide +kernel, by decide +kernel⟩
theorem dk_MO_run (d : Nat) : dOK (d + 1) d m_MO_run := ⟨Nat.le_refl _, by show 19 + 7 + 40 * d ≤ 40 * (d + 1); omega⟩
set_option maxRecDepth 100000 in
theorem lc_MO_run : LkC m_MO_run 2 := ⟨lwG_in (List.mem_of_getElem? (i := 1748) rfl) rfl, lwG_in (List.mem_of_getElem? (i := 124) rfl) rfl, by decide +kernel, by decide +kernel, by decide +kernel⟩
def m_MO_perform : MM := (11, ⟨"FrostBoxModel", "perform", "(I)I"⟩, prog_13_method_85_code, 6, some .int, 0, 0)
theorem ok_MO_perform : mOK m_MO_perform := ⟨by decide +kernel, by decide +kernel⟩
theorem dk_MO_perform (d : Nat) : dOK (d + 1) d m_MO_perform := ⟨Nat.le_refl _, by show 19 + 6 + 40 * d ≤ 40 * (d + 1); omega⟩
set_option maxRecDepth 100000 in
theorem lc_MO_perform : LkC m_MO_perform 1 := ⟨lwG_in (List.mem_of_getElem? (i := 1767) rfl) rfl, lwG_in (List.mem_of_getElem? (i := 124) rfl) rfl, by decide +kernel, by decide +kernel, by decide +kernel⟩
def m_MO_fit : MM := (11, ⟨"FrostBoxModel", "fit", "(II)Z"⟩, prog_13_method_86_code, 3, some .boolean, 0, 0)
theorem ok_MO_fit : mOK m_MO_fit := ⟨by decide +kernel, by decide +kernel⟩
theorem dk_MO_fit (d : Nat) : dOK (d + 1) d m_MO_fit := ⟨Nat.le_refl _, by show 19 + 3 + 40 * d ≤ 40 * (d + 1); omega⟩
set_option maxRecDepth 100000 in
theorem lc_MO_fit : LkC m_MO_fit 2 := ⟨lwG_in (List.mem_of_getElem? (i := 1784) rfl) rfl, lwG_in (List.mem_of_getElem? (i := 124) rfl) rfl, by decide +kernel, by decide +kernel, by decide +kernel⟩
def m_MO_kindIn : MM := (11, ⟨"FrostBoxModel", "kindIn", "(I)I"⟩, prog_13_method_87_code, 2, some .int, 0, 0)
theorem ok_MO_kindIn : mOK m_MO_kindIn := ⟨by decide +kernel, by decide +kernel⟩
theorem dk_MO_kindIn (d : Nat) : dOK (d + 1) d m_MO_kindIn := ⟨Nat.le_refl _, by show 19 + 2 + 40 * d ≤ 40 * (d + 1); omega⟩
set_option maxRecDepth 100000 in
theorem lc_MO_kindIn : LkC m_MO_kindIn 1 := ⟨lwG_in (List.mem_of_getElem? (i := 1780) rfl) rfl, lwG_in (List.mem_of_getElem? (i := 124) rfl) rfl, by decide +kernel, by decide +kernel, by decide +kernel⟩
def m_MO_isDinner : MM := (11, ⟨"FrostBoxModel", "isDinner", "(I)Z"⟩, prog_13_method_88_code, 4, some .boolean, 0, 0)
theorem ok_MO_isDinner : mOK m_MO_isDinner := ⟨by decide +kernel, by decide +kernel⟩
theorem dk_MO_isDinner (d : Nat) : dOK (d + 1) d m_MO_isDinner := ⟨Nat.le_refl _, by show 19 + 4 + 40 * d ≤ 40 * (d + 1); omega⟩
set_option maxRecDepth 100000 in
theorem lc_MO_isDinner : LkC m_MO_isDinner 1 := ⟨lwG_in (List.mem_of_getElem? (i := 1776) rfl) rfl, lwG_in (List.mem_of_getElem? (i := 124) rfl) rfl, by decide +kernel, by decide +kernel, by decide +kernel⟩
def m_MO_dinner : MM := (11, ⟨"FrostBoxModel", "dinner", "(II)I"⟩, prog_13_method_89_code, 10, some .int, 0, 0)
theorem ok_MO_dinner : mOK m_MO_dinner := ⟨by decide +kernel, by decide +kernel⟩
theorem dk_MO_dinner (d : Nat) : dOK (d + 1) d m_MO_dinner := ⟨Nat.le_refl _, by show 19 + 10 + 40 * d ≤ 40 * (d + 1); omega⟩
set_option maxRecDepth 100000 in
theorem lc_MO_dinner : LkC m_MO_dinner 2 := ⟨lwG_in (List.mem_of_getElem? (i := 1771) rfl) rfl, lwG_in (List.mem_of_getElem? (i := 124) rfl) rfl, by decide +kernel, by decide +kernel, by decide +kernel⟩
def m_MO_belowOf : MM := (11, ⟨"FrostBoxModel", "belowOf", "(II)I"⟩, prog_13_method_90_code, 3, some .int, 0, 0)
theorem ok_MO_belowOf : mOK m_MO_belowOf := ⟨by decide +kernel, by decide +kernel⟩
theorem dk_MO_belowOf (d : Nat) : dOK (d + 1) d m_MO_belowOf := ⟨Nat.le_refl _, by show 19 + 3 + 40 * d ≤ 40 * (d + 1); omega⟩
set_option maxRecDepth 100000 in
theorem lc_MO_belowOf : LkC m_MO_belowOf 2 := ⟨lwG_in (List.mem_of_getElem? (i := 1796) rfl) rfl, lwG_in (List.mem_of_getElem? (i := 124) rfl) rfl, by decide +kernel, by decide +kernel, by decide +kernel⟩
def m_MO_goEat : MM := (11, ⟨"FrostBoxModel", "goEat", "(IIII)V"⟩, prog_13_method_91_code, 6, none, 0, 0)
theorem ok_MO_goEat : mOK m_MO_goEat := ⟨by decide +kernel, by decide +kernel⟩
theorem dk_MO_goEat (d : Nat) : dOK (d + 1) d m_MO_goEat := ⟨Nat.le_refl _, by show 19 + 6 + 40 * d ≤ 40 * (d + 1); omega⟩
set_option maxRecDepth 100000 in
theorem lc_MO_goEat : LkC m_MO_goEat 4 := ⟨lwG_in (List.mem_of_getElem? (i := 1792) rfl) rfl, lwG_in (List.mem_of_getElem? (i := 124) rfl) rfl, by decide +kernel, by decide +kernel, by decide +kernel⟩
def m_MO_eat : MM := (11, ⟨"FrostBoxModel", "eat", "(I)I"⟩, prog_13_method_92_code, 6, some .int, 0, 0)
theorem ok_MO_eat : mOK m_MO_eat := ⟨by decide +kernel, by decide +kernel⟩
theorem dk_MO_eat (d : Nat) : dOK (d + 1) d m_MO_eat := ⟨Nat.le_refl _, by show 19 + 6 + 40 * d ≤ 40 * (d + 1); omega⟩
set_option maxRecDepth 100000 in
theorem lc_MO_eat : LkC m_MO_eat 1 := ⟨lwG_in (List.mem_of_getElem? (i := 1788) rfl) rfl, lwG_in (List.mem_of_getElem? (i := 124) rfl) rfl, by decide +kernel, by decide +kernel, by decide +kernel⟩
def m_MO_costs : MM := (11, ⟨"FrostBoxModel", "costs", "(I)I"⟩, prog_13_method_93_code, 2, some .int, 0, 0)
theorem ok_MO_costs : mOK m_MO_costs := ⟨by decide +kernel, by decide +kernel⟩
theorem dk_MO_costs (d : Nat) : dOK (d + 1) d m_MO_costs := ⟨Nat.le_refl _, by show 19 + 2 + 40 * d ≤ 40 * (d + 1); omega⟩
set_option maxRecDepth 100000 in
theorem lc_MO_costs : LkC m_MO_costs 1 := ⟨lwG_in (List.mem_of_getElem? (i := 1801) rfl) rfl, lwG_in (List.mem_of_getElem? (i := 124) rfl) rfl, by decide +kernel, by decide +kernel, by decide +kernel⟩
def m_MO_full : MM := (11, ⟨"FrostBoxModel", "full", "(I)I"⟩, prog_13_method_94_code, 3, some .int, 0, 0)
theorem ok_MO_full : mOK m_MO_full := ⟨by decide +kernel, by decide +kernel⟩
theorem dk_MO_full (d : Nat) : dOK (d + 1) d m_MO_full := ⟨Nat.le_refl _, by show 19 + 3 + 40 * d ≤ 40 * (d + 1); omega⟩
set_option maxRecDepth 100000 in
theorem lc_MO_full : LkC m_MO_full 1 := ⟨lwG_in (List.mem_of_getElem? (i := 1809) rfl) rfl, lwG_in (List.mem_of_getElem? (i := 124) rfl) rfl, by decide +kernel, by decide +kernel, by decide +kernel⟩
def m_MO_keep : MM := (11, ⟨"FrostBoxModel", "keep", "(II)I"⟩, prog_13_method_95_code, 5, some .int, 0, 0)
theorem ok_MO_keep : mOK m_MO_keep := ⟨by decide +kernel, by decide +kernel⟩
theorem dk_MO_keep (d : Nat) : dOK (d + 1) d m_MO_keep := ⟨Nat.le_refl _, by show 19 + 5 + 40 * d ≤ 40 * (d + 1); omega⟩
set_option maxRecDepth 100000 in
theorem lc_MO_keep : LkC m_MO_keep 2 := ⟨lwG_in (List.mem_of_getElem? (i := 1813) rfl) rfl, lwG_in (List.mem_of_getElem? (i := 124) rfl) rfl, by decide +kernel, by decide +kernel, by decide +kernel⟩
def m_MO_isNameless : MM := (11, ⟨"FrostBoxModel", "isNameless", "(I)Z"⟩, prog_13_method_96_code, 2, some .boolean, 0, 0)
theorem ok_MO_isNameless : mOK m_MO_isNameless := ⟨by decide +kernel, by decide +kernel⟩
theorem dk_MO_isNameless (d : Nat) : dOK (d + 1) d m_MO_isNameless := ⟨Nat.le_refl _, by show 19 + 2 + 40 * d ≤ 40 * (d + 1); omega⟩
set_option maxRecDepth 100000 in
theorem lc_MO_isNameless : LkC m_MO_isNameless 1 := ⟨lwG_in (List.mem_of_getElem? (i := 1821) rfl) rfl, lwG_in (List.mem_of_getElem? (i := 124) rfl) rfl, by decide +kernel, by decide +kernel, by decide +kernel⟩
def m_MO_couldBe : MM := (11, ⟨"FrostBoxModel", "couldBe", "(II)I"⟩, prog_13_method_97_code, 5, some .int, 0, 0)
theorem ok_MO_couldBe : mOK m_MO_couldBe := ⟨by decide +kernel, by decide +kernel⟩
theorem dk_MO_couldBe (d : Nat) : dOK (d + 1) d m_MO_couldBe := ⟨Nat.le_refl _, by show 19 + 5 + 40 * d ≤ 40 * (d + 1); omega⟩
set_option maxRecDepth 100000 in
theorem lc_MO_couldBe : LkC m_MO_couldBe 2 := ⟨lwG_in (List.mem_of_getElem? (i := 1825) rfl) rfl, lwG_in (List.mem_of_getElem? (i := 124) rfl) rfl, by decide +kernel, by decide +kernel, by decide +kernel⟩
def m_MO_spans : MM := (11, ⟨"FrostBoxModel", "spans", "(II)I"⟩, prog_13_method_98_code, 5, some .int, 0, 0)
theorem ok_MO_spans : mOK m_MO_spans := ⟨by decide +kernel, by decide +kernel⟩
theorem dk_MO_spans (d : Nat) : dOK (d + 1) d m_MO_spans := ⟨Nat.le_refl _, by show 19 + 5 + 40 * d ≤ 40 * (d + 1); omega⟩
set_option maxRecDepth 100000 in
theorem lc_MO_spans : LkC m_MO_spans 2 := ⟨lwG_in (List.mem_of_getElem? (i := 1817) rfl) rfl, lwG_in (List.mem_of_getElem? (i := 124) rfl) rfl, by decide +kernel, by decide +kernel, by decide +kernel⟩
def m_MO_nameless : MM := (11, ⟨"FrostBoxModel", "nameless", "()I"⟩, prog_13_method_99_code, 3, some .int, 0, 0)
theorem ok_MO_nameless : mOK m_MO_nameless := ⟨by decide +kernel, by decide +kernel⟩
theorem dk_MO_nameless (d : Nat) : dOK (d + 1) d m_MO_nameless := ⟨Nat.le_refl _, by show 19 + 3 + 40 * d ≤ 40 * (d + 1); omega⟩
set_option maxRecDepth 100000 in
theorem lc_MO_nameless : LkC m_MO_nameless 0 := ⟨lwG_in (List.mem_of_getElem? (i := 1829) rfl) rfl, lwG_in (List.mem_of_getElem? (i := 124) rfl) rfl, by decide +kernel, by decide +kernel, by decide +kernel⟩
def m_MO_doubles : MM := (11, ⟨"FrostBoxModel", "doubles", "(I)I"⟩, prog_13_method_100_code, 5, some .int, 0, 0)
theorem ok_MO_doubles : mOK m_MO_doubles := ⟨by decide +kernel, by decide +kernel⟩
theorem dk_MO_doubles (d : Nat) : dOK (d + 1) d m_MO_doubles := ⟨Nat.le_refl _, by show 19 + 5 + 40 * d ≤ 40 * (d + 1); omega⟩
set_option maxRecDepth 100000 in
theorem lc_MO_doubles : LkC m_MO_doubles 1 := ⟨lwG_in (List.mem_of_getElem? (i := 1833) rfl) rfl, lwG_in (List.mem_of_getElem? (i := 124) rfl) rfl, by decide +kernel, by decide +kernel, by decide +kernel⟩
def m_MO_peek : MM := (11, ⟨"FrostBoxModel", "peek", "(II)I"⟩, prog_13_method_101_code, 3, some .int, 0, 0)
theorem ok_MO_peek : mOK m_MO_peek := ⟨by decide +kernel, by decide +kernel⟩
theorem dk_MO_peek (d : Nat) : dOK (d + 1) d m_MO_peek := ⟨Nat.le_refl _, by show 19 + 3 + 40 * d ≤ 40 * (d + 1); omega⟩
set_option maxRecDepth 100000 in
theorem lc_MO_peek : LkC m_MO_peek 2 := ⟨lwG_in (List.mem_of_getElem? (i := 1837) rfl) rfl, lwG_in (List.mem_of_getElem? (i := 124) rfl) rfl, by decide +kernel, by decide +kernel, by decide +kernel⟩
def m_MO_heldBy : MM := (11, ⟨"FrostBoxModel", "heldBy", "(I)J"⟩, prog_13_method_102_code, 5, some .long, 0, 0)
theorem ok_MO_heldBy : mOK m_MO_heldBy := ⟨by decide +kernel, by decide +kernel⟩
theorem dk_MO_heldBy (d : Nat) : dOK (d + 1) d m_MO_heldBy := ⟨Nat.le_refl _, by show 19 + 5 + 40 * d ≤ 40 * (d + 1); omega⟩
set_option maxRecDepth 100000 in
theorem lc_MO_heldBy : LkC m_MO_heldBy 1 := ⟨lwG_in (List.mem_of_getElem? (i := 1849) rfl) rfl, lwG_in (List.mem_of_getElem? (i := 124) rfl) rfl, by decide +kernel, by decide +kernel, by decide +kernel⟩
def m_MO_greatestBy : MM := (11, ⟨"FrostBoxModel", "greatestBy", "(I)J"⟩, prog_13_method_103_code, 8, some .long, 0, 0)
theorem ok_MO_greatestBy : mOK m_MO_greatestBy := ⟨by decide +kernel, by decide +kernel⟩
theorem dk_MO_greatestBy (d : Nat) : dOK (d + 1) d m_MO_greatestBy := ⟨Nat.le_refl _, by show 19 + 8 + 40 * d ≤ 40 * (d + 1); omega⟩
set_option maxRecDepth 100000 in
theorem lc_MO_greatestBy : LkC m_MO_greatestBy 1 := ⟨lwG_in (List.mem_of_getElem? (i := 1845) rfl) rfl, lwG_in (List.mem_of_getElem? (i := 124) rfl) rfl, by decide +kernel, by decide +kernel, by decide +kernel⟩
def m_MO_what : MM := (11, ⟨"FrostBoxModel", "what", "(I)I"⟩, prog_13_method_104_code, 6, some .int, 0, 0)
theorem ok_MO_what : mOK m_MO_what := ⟨by decide +kernel, by decide +kernel⟩
theorem dk_MO_what (d : Nat) : dOK (d + 1) d m_MO_what := ⟨Nat.le_refl _, by show 19 + 6 + 40 * d ≤ 40 * (d + 1); omega⟩
set_option maxRecDepth 100000 in
theorem lc_MO_what : LkC m_MO_what 1 := ⟨lwG_in (List.mem_of_getElem? (i := 1841) rfl) rfl, lwG_in (List.mem_of_getElem? (i := 124) rfl) rfl, by decide +kernel, by decide +kernel, by decide +kernel⟩
def m_MO_found : MM := (11, ⟨"FrostBoxModel", "found", "(IIZ)I"⟩, prog_13_method_105_code, 4, some .int, 0, 0)
theorem ok_MO_found : mOK m_MO_found := ⟨by decide +kernel, by decide +kernel⟩
theorem dk_MO_found (d : Nat) : dOK (d + 1) d m_MO_found := ⟨Nat.le_refl _, by show 19 + 4 + 40 * d ≤ 40 * (d + 1); omega⟩
set_option maxRecDepth 100000 in
theorem lc_MO_found : LkC m_MO_found 3 := ⟨lwG_in (List.mem_of_getElem? (i := 1854) rfl) rfl, lwG_in (List.mem_of_getElem? (i := 124) rfl) rfl, by decide +kernel, by decide +kernel, by decide +kernel⟩
def m_MO_mayBe : MM := (11, ⟨"FrostBoxModel", "mayBe", "(II)Z"⟩, prog_13_method_106_code, 4, some .boolean, 0, 0)
theorem ok_MO_mayBe : mOK m_MO_mayBe := ⟨by decide +kernel, by decide +kernel⟩
theorem dk_MO_mayBe (d : Nat) : dOK (d + 1) d m_MO_mayBe := ⟨Nat.le_refl _, by show 19 + 4 + 40 * d ≤ 40 * (d + 1); omega⟩
set_option maxRecDepth 100000 in
theorem lc_MO_mayBe : LkC m_MO_mayBe 2 := ⟨lwG_in (List.mem_of_getElem? (i := 1871) rfl) rfl, lwG_in (List.mem_of_getElem? (i := 124) rfl) rfl, by decide +kernel, by decide +kernel, by decide +kernel⟩
def m_MO_goHistory : MM := (11, ⟨"FrostBoxModel", "goHistory", "(III)V"⟩, prog_13_method_107_code, 5, none, 0, 0)
theorem ok_MO_goHistory : mOK m_MO_goHistory := ⟨by decide +kernel, by decide +kernel⟩
theorem dk_MO_goHistory (d : Nat) : dOK (d + 1) d m_MO_goHistory := ⟨Nat.le_refl _, by show 19 + 5 + 40 * d ≤ 40 * (d + 1); omega⟩
set_option maxRecDepth 100000 in
theorem lc_MO_goHistory : LkC m_MO_goHistory 3 := ⟨lwG_in (List.mem_of_getElem? (i := 1867) rfl) rfl, lwG_in (List.mem_of_getElem? (i := 124) rfl) rfl, by decide +kernel, by decide +kernel, by decide +kernel⟩
def m_MO_layHistory : MM := (11, ⟨"FrostBoxModel", "layHistory", "(II)Z"⟩, prog_13_method_108_code, 6, some .boolean, 0, 0)
theorem ok_MO_layHistory : mOK m_MO_layHistory := ⟨by decide +kernel, by decide +kernel⟩
theorem dk_MO_layHistory (d : Nat) : dOK (d + 1) d m_MO_layHistory := ⟨Nat.le_refl _, by show 19 + 6 + 40 * d ≤ 40 * (d + 1); omega⟩
set_option maxRecDepth 100000 in
theorem lc_MO_layHistory : LkC m_MO_layHistory 2 := ⟨lwG_in (List.mem_of_getElem? (i := 1862) rfl) rfl, lwG_in (List.mem_of_getElem? (i := 124) rfl) rfl, by decide +kernel, by decide +kernel, by decide +kernel⟩
def m_MO_history : MM := (11, ⟨"FrostBoxModel", "history", "(II)I"⟩, prog_13_method_109_code, 3, some .int, 0, 0)
theorem ok_MO_history : mOK m_MO_history := ⟨by decide +kernel, by decide +kernel⟩
theorem dk_MO_history (d : Nat) : dOK (d + 1) d m_MO_history := ⟨Nat.le_refl _, by show 19 + 3 + 40 * d ≤ 40 * (d + 1); omega⟩
set_option maxRecDepth 100000 in
theorem lc_MO_history : LkC m_MO_history 2 := ⟨lwG_in (List.mem_of_getElem? (i := 1858) rfl) rfl, lwG_in (List.mem_of_getElem? (i := 124) rfl) rfl, by decide +kernel, by decide +kernel, by decide +kernel⟩
def m_MO_share : MM := (11, ⟨"FrostBoxModel", "share", "(I)I"⟩, prog_13_method_110_code, 2, some .int, 0, 0)
theorem ok_MO_share : mOK m_MO_share := ⟨by decide +kernel, by decide +kernel⟩
theorem dk_MO_share (d : Nat) : dOK (d + 1) d m_MO_share := ⟨Nat.le_refl _, by show 19 + 2 + 40 * d ≤ 40 * (d + 1); omega⟩
set_option maxRecDepth 100000 in
theorem lc_MO_share : LkC m_MO_share 1 := ⟨lwG_in (List.mem_of_getElem? (i := 1875) rfl) rfl, lwG_in (List.mem_of_getElem? (i := 124) rfl) rfl, by decide +kernel, by decide +kernel, by decide +kernel⟩
def m_MO_lot : MM := (11, ⟨"FrostBoxModel", "lot", "(I)I"⟩, prog_13_method_111_code, 7, some .int, 0, 0)
theorem ok_MO_lot : mOK m_MO_lot := ⟨by decide +kernel, by decide +kernel⟩
theorem dk_MO_lot (d : Nat) : dOK (d + 1) d m_MO_lot := ⟨Nat.le_refl _, by show 19 + 7 + 40 * d ≤ 40 * (d + 1); omega⟩
set_option maxRecDepth 100000 in
theorem lc_MO_lot : LkC m_MO_lot 1 := ⟨lwG_in (List.mem_of_getElem? (i := 1879) rfl) rfl, lwG_in (List.mem_of_getElem? (i := 124) rfl) rfl, by decide +kernel, by decide +kernel, by decide +kernel⟩
def m_MO_labelsOf : MM := (11, ⟨"FrostBoxModel", "labelsOf", "(II)I"⟩, prog_13_method_112_code, 3, some .int, 0, 0)
theorem ok_MO_labelsOf : mOK m_MO_labelsOf := ⟨by decide +kernel, by decide +kernel⟩
theorem dk_MO_labelsOf (d : Nat) : dOK (d + 1) d m_MO_labelsOf := ⟨Nat.le_refl _, by show 19 + 3 + 40 * d ≤ 40 * (d + 1); omega⟩
set_option maxRecDepth 100000 in
theorem lc_MO_labelsOf : LkC m_MO_labelsOf 2 := ⟨lwG_in (List.mem_of_getElem? (i := 1887) rfl) rfl, lwG_in (List.mem_of_getElem? (i := 124) rfl) rfl, by decide +kernel, by decide +kernel, by decide +kernel⟩
def m_MO_labels : MM := (11, ⟨"FrostBoxModel", "labels", "(II)I"⟩, prog_13_method_113_code, 3, some .int, 0, 0)
theorem ok_MO_labels : mOK m_MO_labels := ⟨by decide +kernel, by decide +kernel⟩
theorem dk_MO_labels (d : Nat) : dOK (d + 1) d m_MO_labels := ⟨Nat.le_refl _, by show 19 + 3 + 40 * d ≤ 40 * (d + 1); omega⟩
set_option maxRecDepth 100000 in
theorem lc_MO_labels : LkC m_MO_labels 2 := ⟨lwG_in (List.mem_of_getElem? (i := 1883) rfl) rfl, lwG_in (List.mem_of_getElem? (i := 124) rfl) rfl, by decide +kernel, by decide +kernel, by decide +kernel⟩
def m_MO_rests : MM := (11, ⟨"FrostBoxModel", "rests", "(I)I"⟩, prog_13_method_114_code, 6, some .int, 0, 0)
theorem ok_MO_rests : mOK m_MO_rests := ⟨by decide +kernel, by decide +kernel⟩
theorem dk_MO_rests (d : Nat) : dOK (d + 1) d m_MO_rests := ⟨Nat.le_refl _, by show 19 + 6 + 40 * d ≤ 40 * (d + 1); omega⟩
set_option maxRecDepth 100000 in
theorem lc_MO_rests : LkC m_MO_rests 1 := ⟨lwG_in (List.mem_of_getElem? (i := 1892) rfl) rfl, lwG_in (List.mem_of_getElem? (i := 124) rfl) rfl, by decide +kernel, by decide +kernel, by decide +kernel⟩
def m_MO_most : MM := (11, ⟨"FrostBoxModel", "most", "(I)I"⟩, prog_13_method_115_code, 5, some .int, 0, 0)
theorem ok_MO_most : mOK m_MO_most := ⟨by decide +kernel, by decide +kernel⟩
theorem dk_MO_most (d : Nat) : dOK (d + 1) d m_MO_most := ⟨Nat.le_refl _, by show 19 + 5 + 40 * d ≤ 40 * (d + 1); omega⟩
set_option maxRecDepth 100000 in
theorem lc_MO_most : LkC m_MO_most 1 := ⟨lwG_in (List.mem_of_getElem? (i := 1896) rfl) rfl, lwG_in (List.mem_of_getElem? (i := 124) rfl) rfl, by decide +kernel, by decide +kernel, by decide +kernel⟩
def m_MO_spoilt : MM := (11, ⟨"FrostBoxModel", "spoilt", "()I"⟩, prog_13_method_116_code, 3, some .int, 0, 0)
theorem ok_MO_spoilt : mOK m_MO_spoilt := ⟨by decide +kernel, by decide +kernel⟩
theorem dk_MO_spoilt (d : Nat) : dOK (d + 1) d m_MO_spoilt := ⟨Nat.le_refl _, by show 19 + 3 + 40 * d ≤ 40 * (d + 1); omega⟩
set_option maxRecDepth 100000 in
theorem lc_MO_spoilt : LkC m_MO_spoilt 0 := ⟨lwG_in (List.mem_of_getElem? (i := 1900) rfl) rfl, lwG_in (List.mem_of_getElem? (i := 124) rfl) rfl, by decide +kernel, by decide +kernel, by decide +kernel⟩
def m_MO_buried : MM := (11, ⟨"FrostBoxModel", "buried", "(I)I"⟩, prog_13_method_117_code, 4, some .int, 0, 0)
theorem ok_MO_buried : mOK m_MO_buried := ⟨by decide +kernel, by decide +kernel⟩
theorem dk_MO_buried (d : Nat) : dOK (d + 1) d m_MO_buried := ⟨Nat.le_refl _, by show 19 + 4 + 40 * d ≤ 40 * (d + 1); omega⟩
set_option maxRecDepth 100000 in
theorem lc_MO_buried : LkC m_MO_buried 1 := ⟨lwG_in (List.mem_of_getElem? (i := 1904) rfl) rfl, lwG_in (List.mem_of_getElem? (i := 124) rfl) rfl, by decide +kernel, by decide +kernel, by decide +kernel⟩
def m_MO_goes : MM := (11, ⟨"FrostBoxModel", "goes", "(I)I"⟩, prog_13_method_118_code, 4, some .int, 0, 0)
theorem ok_MO_goes : mOK m_MO_goes := ⟨by decide +kernel, by decide +kernel⟩
theorem dk_MO_goes (d : Nat) : dOK (d + 1) d m_MO_goes := ⟨Nat.le_refl _, by show 19 + 4 + 40 * d ≤ 40 * (d + 1); omega⟩
set_option maxRecDepth 100000 in
theorem lc_MO_goes : LkC m_MO_goes 1 := ⟨lwG_in (List.mem_of_getElem? (i := 1908) rfl) rfl, lwG_in (List.mem_of_getElem? (i := 124) rfl) rfl, by decide +kernel, by decide +kernel, by decide +kernel⟩
def m_MO_soonest : MM := (11, ⟨"FrostBoxModel", "soonest", "(I)I"⟩, prog_13_method_119_code, 3, some .int, 0, 0)
theorem ok_MO_soonest : mOK m_MO_soonest := ⟨by decide +kernel, by decide +kernel⟩
theorem dk_MO_soonest (d : Nat) : dOK (d + 1) d m_MO_soonest := ⟨Nat.le_refl _, by show 19 + 3 + 40 * d ≤ 40 * (d + 1); omega⟩
set_option maxRecDepth 100000 in
theorem lc_MO_soonest : LkC m_MO_soonest 1 := ⟨lwG_in (List.mem_of_getElem? (i := 1912) rfl) rfl, lwG_in (List.mem_of_getElem? (i := 124) rfl) rfl, by decide +kernel, by decide +kernel, by decide +kernel⟩
def m_MO_monthly : MM := (11, ⟨"FrostBoxModel", "monthly", "(I)I"⟩, prog_13_method_120_code, 4, some .int, 0, 0)
theorem ok_MO_monthly : mOK m_MO_monthly := ⟨by decide +kernel, by decide +kernel⟩
theorem dk_MO_monthly (d : Nat) : dOK (d + 1) d m_MO_monthly := ⟨Nat.le_refl _, by show 19 + 4 + 40 * d ≤ 40 * (d + 1); omega⟩
set_option maxRecDepth 100000 in
theorem lc_MO_monthly : LkC m_MO_monthly 1 := ⟨lwG_in (List.mem_of_getElem? (i := 1916) rfl) rfl, lwG_in (List.mem_of_getElem? (i := 124) rfl) rfl, by decide +kernel, by decide +kernel, by decide +kernel⟩
def m_MO_make : MM := (11, ⟨"FrostBoxModel", "make", "(II)I"⟩, prog_13_method_121_code, 4, some .int, 0, 0)
theorem ok_MO_make : mOK m_MO_make := ⟨by decide +kernel, by decide +kernel⟩
theorem dk_MO_make (d : Nat) : dOK (d + 1) d m_MO_make := ⟨Nat.le_refl _, by show 19 + 4 + 40 * d ≤ 40 * (d + 1); omega⟩
set_option maxRecDepth 100000 in
theorem lc_MO_make : LkC m_MO_make 2 := ⟨lwG_in (List.mem_of_getElem? (i := 1921) rfl) rfl, lwG_in (List.mem_of_getElem? (i := 124) rfl) rfl, by decide +kernel, by decide +kernel, by decide +kernel⟩
def m_MO_image : MM := (11, ⟨"FrostBoxModel", "image", "()I"⟩, prog_13_method_122_code, 1, some .int, 0, 0)
theorem ok_MO_image : mOK m_MO_image := ⟨by decide +kernel, by decide +kernel⟩
theorem dk_MO_image (d : Nat) : dOK (d + 1) d m_MO_image := ⟨Nat.le_refl _, by show 19 + 1 + 40 * d ≤ 40 * (d + 1); omega⟩
set_option maxRecDepth 100000 in
theorem lc_MO_image : LkC m_MO_image 0 := ⟨lwG_in (List.mem_of_getElem? (i := 1926) rfl) rfl, lwG_in (List.mem_of_getElem? (i := 124) rfl) rfl, by decide +kernel, by decide +kernel, by decide +kernel⟩
def m_MO_back : MM := (11, ⟨"FrostBoxModel", "back", "()I"⟩, prog_13_method_123_code, 1, some .int, 0, 0)
theorem ok_MO_back : mOK m_MO_back := ⟨by decide +kernel, by decide +kernel⟩
theorem dk_MO_back (d : Nat) : dOK (d + 1) d m_MO_back := ⟨Nat.le_refl _, by show 19 + 1 + 40 * d ≤ 40 * (d + 1); omega⟩
set_option maxRecDepth 100000 in
theorem lc_MO_back : LkC m_MO_back 0 := ⟨lwG_in (List.mem_of_getElem? (i := 1930) rfl) rfl, lwG_in (List.mem_of_getElem? (i := 124) rfl) rfl, by decide +kernel, by decide +kernel, by decide +kernel⟩
def m_MO_count : MM := (11, ⟨"FrostBoxModel", "count", "(I)I"⟩, prog_13_method_124_code, 4, some .int, 0, 0)
theorem ok_MO_count : mOK m_MO_count := ⟨by decide +kernel, by decide +kernel⟩
theorem dk_MO_count (d : Nat) : dOK (d + 1) d m_MO_count := ⟨Nat.le_refl _, by show 19 + 4 + 40 * d ≤ 40 * (d + 1); omega⟩
set_option maxRecDepth 100000 in
theorem lc_MO_count : LkC m_MO_count 1 := ⟨lwG_in (List.mem_of_getElem? (i := 1934) rfl) rfl, lwG_in (List.mem_of_getElem? (i := 124) rfl) rfl, by decide +kernel, by decide +kernel, by decide +kernel⟩
def m_St_length : MM := (15, ⟨"java/lang/String", "length", "()I"⟩, prog_21_method_54_code, 1, some .int, 0, 0)
theorem ok_St_length : mOK m_St_length := ⟨by decide +kernel, by decide +kernel⟩
theorem dk_St_length (d : Nat) : dOK (d + 1) d m_St_length := ⟨Nat.le_refl _, by show 19 + 1 + 40 * d ≤ 40 * (d + 1); omega⟩
set_option maxRecDepth 100000 in
theorem lc_St_length : LkC m_St_length 0 := ⟨lwG_in (List.mem_of_getElem? (i := 1435) rfl) rfl, lwG_in (List.mem_of_getElem? (i := 126) rfl) rfl, by decide +kernel, by decide +kernel, by decide +kernel⟩
def m_St_coder : MM := (15, ⟨"java/lang/String", "coder", "()B"⟩, prog_21_method_152_code, 1, some .byte, 0, 0)
theorem ok_St_coder : mOK m_St_coder := ⟨by decide +kernel, by decide +kernel⟩
theorem dk_St_coder (d : Nat) : dOK (d + 1) d m_St_coder := ⟨Nat.le_refl _, by show 19 + 1 + 40 * d ≤ 40 * (d + 1); omega⟩
set_option maxRecDepth 100000 in
theorem lc_St_coder : LkC m_St_coder 0 := ⟨lwG_in (List.mem_of_getElem? (i := 1439) rfl) rfl, lwG_in (List.mem_of_getElem? (i := 126) rfl) rfl, by decide +kernel, by decide +kernel, by decide +kernel⟩
def m_St_charAt : MM := (15, ⟨"java/lang/String", "charAt", "(I)C"⟩, prog_21_method_56_code, 2, some .char, 0, 0)
theorem ok_St_charAt : mOK m_St_charAt := ⟨by decide +kernel, by decide +kernel⟩
theorem dk_St_charAt (d : Nat) : dOK (d + 1) d m_St_charAt := ⟨Nat.le_refl _, by show 19 + 2 + 40 * d ≤ 40 * (d + 1); omega⟩
set_option maxRecDepth 100000 in
theorem lc_St_charAt : LkC m_St_charAt 1 := ⟨lwG_in (List.mem_of_getElem? (i := 1448) rfl) rfl, lwG_in (List.mem_of_getElem? (i := 126) rfl) rfl, by decide +kernel, by decide +kernel, by decide +kernel⟩
def m_St_isLatin1 : MM := (15, ⟨"java/lang/String", "isLatin1", "()Z"⟩, prog_21_method_154_code, 1, some .boolean, 0, 0)
theorem ok_St_isLatin1 : mOK m_St_isLatin1 := ⟨by decide +kernel, by decide +kernel⟩
theorem dk_St_isLatin1 (d : Nat) : dOK (d + 1) d m_St_isLatin1 := ⟨Nat.le_refl _, by show 19 + 1 + 40 * d ≤ 40 * (d + 1); omega⟩
set_option maxRecDepth 100000 in
theorem lc_St_isLatin1 : LkC m_St_isLatin1 0 := ⟨lwG_in (List.mem_of_getElem? (i := 1452) rfl) rfl, lwG_in (List.mem_of_getElem? (i := 126) rfl) rfl, by decide +kernel, by decide +kernel, by decide +kernel⟩
def m_SL_charAt : MM := (16, ⟨"java/lang/StringLatin1", "charAt", "([BI)C"⟩, prog_22_method_2_code, 2, some .char, 0, 0)
theorem ok_SL_charAt : mOK m_SL_charAt := ⟨by decide +kernel, by decide +kernel⟩
theorem dk_SL_charAt (d : Nat) : dOK (d + 1) d m_SL_charAt := ⟨Nat.le_refl _, by show 19 + 2 + 40 * d ≤ 40 * (d + 1); omega⟩
set_option maxRecDepth 100000 in
theorem lc_SL_charAt : LkC m_SL_charAt 2 := ⟨lwG_in (List.mem_of_getElem? (i := 1455) rfl) rfl, lwG_in (List.mem_of_getElem? (i := 127) rfl) rfl, by decide +kernel, by decide +kernel, by decide +kernel⟩
def m_St_checkIndex : MM := (15, ⟨"java/lang/String", "checkIndex", "(II)V"⟩, prog_21_method_155_code, 2, none, 0, 0)
theorem ok_St_checkIndex : mOK m_St_checkIndex := ⟨by decide +kernel, by decide +kernel⟩
theorem dk_St_checkIndex (d : Nat) : dOK (d + 1) d m_St_checkIndex := ⟨Nat.le_refl _, by show 19 + 2 + 40 * d ≤ 40 * (d + 1); omega⟩
set_option maxRecDepth 100000 in
theorem lc_St_checkIndex : LkC m_St_checkIndex 2 := ⟨lwG_in (List.mem_of_getElem? (i := 1458) rfl) rfl, lwG_in (List.mem_of_getElem? (i := 126) rfl) rfl, by decide +kernel, by decide +kernel, by decide +kernel⟩
def m_Pc_checkIndex : MM := (18, ⟨"jdk/internal/util/Preconditions", "checkIndex", "(IILjava/util/function/BiFunction;)I"⟩, prog_29_method_11_code, 3, some .int, 0, 0)
theorem ok_Pc_checkIndex : mOK m_Pc_checkIndex := ⟨by decide +kernel, by decide +kernel⟩
theorem dk_Pc_checkIndex (d : Nat) : dOK (d + 1) d m_Pc_checkIndex := ⟨Nat.le_refl _, by show 19 + 3 + 40 * d ≤ 40 * (d + 1); omega⟩
set_option maxRecDepth 100000 in
theorem lc_Pc_checkIndex : LkC m_Pc_checkIndex 3 := ⟨lwG_in (List.mem_of_getElem? (i := 1463) rfl) rfl, lwG_in (List.mem_of_getElem? (i := 128) rfl) rfl, by decide +kernel, by decide +kernel, by decide +kernel⟩
def rcS (a : Nat) : Prop := ∃ j, j < 6 ∧ a = 14 + j
theorem rcS_ok {M' : MM} {μ : XM} {a : Nat} (h : rcS a) (hc : (mY M').cls = "java/lang/String") : Rcv M' μ a := Or.inr (h.elim fun j q => ⟨j, q.1, q.2, hc⟩)
