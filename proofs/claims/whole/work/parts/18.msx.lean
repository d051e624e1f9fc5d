/-! EVERY METHOD'S TABLE IS RIGHT: by program (wip/whole/genms.py). -/
set_option maxRecDepth 100000 in
set_option maxHeartbeats 4000000 in
theorem zmo_A_find : zmok zMs zI_A_find := ⟨by decide +kernel, ⟨by decide +kernel, by decide +kernel⟩, zwd_ok (a := 4) (b := 44) (by decide +kernel), zwd_ok (a := 1) (b := 4) (by decide +kernel), by decide +kernel, by rw [if_neg (by decide)]; exact ⟨zwd_ok (a := 4) (b := 42) (by decide +kernel), zwd_ok (a := 4) (b := 43) (by decide +kernel)⟩, rfl, by decide +kernel, rfl, fun n e h => by have := zcuts_ok zT_A_find 0 (by decide +kernel) n e h; omega, zall_ok zT_A_find (by decide +kernel)⟩
set_option maxRecDepth 100000 in
set_option maxHeartbeats 4000000 in
theorem zmo_A_insert : zmok zMs zI_A_insert := ⟨by decide +kernel, ⟨by decide +kernel, by decide +kernel⟩, zwd_ok (a := 4) (b := 51) (by decide +kernel), zwd_ok (a := 1) (b := 4) (by decide +kernel), by decide +kernel, by rw [if_neg (by decide)]; exact ⟨zwd_ok (a := 4) (b := 50) (by decide +kernel), List.mem_filter.mpr ⟨List.mem_append_left _ (List.mem_of_getElem? (i := 33) (by decide +kernel)), by decide +kernel⟩⟩, rfl, by decide +kernel, rfl, fun n e h => by have := zcuts_ok zT_A_insert 0 (by decide +kernel) n e h; omega, zall_ok zT_A_insert (by decide +kernel)⟩
set_option maxRecDepth 100000 in
set_option maxHeartbeats 4000000 in
theorem zmo_A_standsBefore : zmok zMs zI_A_standsBefore := ⟨by decide +kernel, ⟨by decide +kernel, by decide +kernel⟩, zwd_ok (a := 4) (b := 55) (by decide +kernel), zwd_ok (a := 1) (b := 4) (by decide +kernel), by decide +kernel, by rw [if_neg (by decide)]; exact ⟨zwd_ok (a := 4) (b := 54) (by decide +kernel), List.mem_filter.mpr ⟨List.mem_append_left _ (List.mem_of_getElem? (i := 34) (by decide +kernel)), by decide +kernel⟩⟩, rfl, by decide +kernel, rfl, fun n e h => by have := zcuts_ok zT_A_standsBefore 0 (by decide +kernel) n e h; omega, zall_ok zT_A_standsBefore (by decide +kernel)⟩
set_option maxRecDepth 100000 in
set_option maxHeartbeats 4000000 in
theorem zmo_A_wayAt : zmok zMs zI_A_wayAt := ⟨by decide +kernel, ⟨by decide +kernel, by decide +kernel⟩, zwd_ok (a := 3) (b := 203) (by decide +kernel), zwd_ok (a := 1) (b := 4) (by decide +kernel), by decide +kernel, by rw [if_neg (by decide)]; exact ⟨zwd_ok (a := 3) (b := 201) (by decide +kernel), zwd_ok (a := 3) (b := 202) (by decide +kernel)⟩, rfl, by decide +kernel, rfl, fun n e h => by have := zcuts_ok zT_A_wayAt 0 (by decide +kernel) n e h; omega, zall_ok zT_A_wayAt (by decide +kernel)⟩
set_option maxRecDepth 100000 in
set_option maxHeartbeats 4000000 in
theorem zmo_A_isTied : zmok zMs zI_A_isTied := ⟨by decide +kernel, ⟨by decide +kernel, by decide +kernel⟩, zwd_ok (a := 4) (b := 64) (by decide +kernel), zwd_ok (a := 1) (b := 4) (by decide +kernel), by decide +kernel, by rw [if_neg (by decide)]; exact ⟨zwd_ok (a := 4) (b := 62) (by decide +kernel), zwd_ok (a := 4) (b := 63) (by decide +kernel)⟩, rfl, by decide +kernel, rfl, fun n e h => by have := zcuts_ok zT_A_isTied 0 (by decide +kernel) n e h; omega, zall_ok zT_A_isTied (by decide +kernel)⟩
set_option maxRecDepth 100000 in
set_option maxHeartbeats 4000000 in
theorem zmo_G_tellFirst : zmok zMs zI_G_tellFirst := ⟨by decide +kernel, ⟨by decide +kernel, by decide +kernel⟩, zwd_ok (a := 3) (b := 55) (by decide +kernel), zwd_ok (a := 1) (b := 7) (by decide +kernel), by decide +kernel, by rw [if_neg (by decide)]; exact ⟨zwd_ok (a := 3) (b := 53) (by decide +kernel), zwd_ok (a := 3) (b := 54) (by decide +kernel)⟩, rfl, by decide +kernel, rfl, fun n e h => by have := zcuts_ok zT_G_tellFirst 0 (by decide +kernel) n e h; omega, zall_ok zT_G_tellFirst (by decide +kernel)⟩
set_option maxRecDepth 100000 in
set_option maxHeartbeats 4000000 in
theorem zmo_G_tellNone : zmok zMs zI_G_tellNone := ⟨by decide +kernel, ⟨by decide +kernel, by decide +kernel⟩, zwd_ok (a := 2) (b := 203) (by decide +kernel), zwd_ok (a := 1) (b := 7) (by decide +kernel), by decide +kernel, by rw [if_neg (by decide)]; exact ⟨zwd_ok (a := 2) (b := 201) (by decide +kernel), zwd_ok (a := 2) (b := 202) (by decide +kernel)⟩, rfl, by decide +kernel, rfl, fun n e h => by have := zcuts_ok zT_G_tellNone 0 (by decide +kernel) n e h; omega, zall_ok zT_G_tellNone (by decide +kernel)⟩
set_option maxRecDepth 100000 in
set_option maxHeartbeats 4000000 in
theorem zmo_G_tells : zmok zMs zI_G_tells := ⟨by decide +kernel, ⟨by decide +kernel, by decide +kernel⟩, zwd_ok (a := 2) (b := 216) (by decide +kernel), zwd_ok (a := 1) (b := 7) (by decide +kernel), by decide +kernel, by rw [if_neg (by decide)]; exact ⟨zwd_ok (a := 2) (b := 214) (by decide +kernel), zwd_ok (a := 2) (b := 215) (by decide +kernel)⟩, rfl, by decide +kernel, rfl, fun n e h => by have := zcuts_ok zT_G_tells 0 (by decide +kernel) n e h; omega, zall_ok zT_G_tells (by decide +kernel)⟩
set_option maxRecDepth 100000 in
set_option maxHeartbeats 4000000 in
theorem zmo_G_tellOneMore : zmok zMs zI_G_tellOneMore := ⟨by decide +kernel, ⟨by decide +kernel, by decide +kernel⟩, zwd_ok (a := 2) (b := 220) (by decide +kernel), zwd_ok (a := 1) (b := 7) (by decide +kernel), by decide +kernel, by rw [if_neg (by decide)]; exact ⟨zwd_ok (a := 2) (b := 218) (by decide +kernel), zwd_ok (a := 2) (b := 219) (by decide +kernel)⟩, rfl, by decide +kernel, rfl, fun n e h => by have := zcuts_ok zT_G_tellOneMore 0 (by decide +kernel) n e h; omega, zall_ok zT_G_tellOneMore (by decide +kernel)⟩
set_option maxRecDepth 100000 in
set_option maxHeartbeats 4000000 in
theorem zmo_G_standsAhead : zmok zMs zI_G_standsAhead := ⟨by decide +kernel, ⟨by decide +kernel, by decide +kernel⟩, zwd_ok (a := 3) (b := 59) (by decide +kernel), zwd_ok (a := 1) (b := 7) (by decide +kernel), by decide +kernel, by rw [if_neg (by decide)]; exact ⟨zwd_ok (a := 3) (b := 57) (by decide +kernel), zwd_ok (a := 3) (b := 58) (by decide +kernel)⟩, rfl, by decide +kernel, rfl, fun n e h => by have := zcuts_ok zT_G_standsAhead 0 (by decide +kernel) n e h; omega, zall_ok zT_G_standsAhead (by decide +kernel)⟩
set_option maxRecDepth 100000 in
set_option maxHeartbeats 4000000 in
theorem zmo_G_findOrder : zmok zMs zI_G_findOrder := ⟨by decide +kernel, ⟨by decide +kernel, by decide +kernel⟩, zwd_ok (a := 2) (b := 228) (by decide +kernel), zwd_ok (a := 1) (b := 7) (by decide +kernel), by decide +kernel, by rw [if_neg (by decide)]; exact ⟨zwd_ok (a := 2) (b := 226) (by decide +kernel), zwd_ok (a := 2) (b := 227) (by decide +kernel)⟩, rfl, by decide +kernel, rfl, fun n e h => by have := zcuts_ok zT_G_findOrder 0 (by decide +kernel) n e h; omega, zall_ok zT_G_findOrder (by decide +kernel)⟩
set_option maxRecDepth 100000 in
set_option maxHeartbeats 4000000 in
theorem zmo_G_layRows : zmok zMs zI_G_layRows := ⟨by decide +kernel, ⟨by decide +kernel, by decide +kernel⟩, zwd_ok (a := 2) (b := 232) (by decide +kernel), zwd_ok (a := 1) (b := 7) (by decide +kernel), by decide +kernel, by rw [if_neg (by decide)]; exact ⟨zwd_ok (a := 2) (b := 231) (by decide +kernel), List.mem_filter.mpr ⟨List.mem_append_left _ (List.mem_of_getElem? (i := 8) (by decide +kernel)), by decide +kernel⟩⟩, rfl, by decide +kernel, rfl, fun n e h => by have := zcuts_ok zT_G_layRows 0 (by decide +kernel) n e h; omega, zall_ok zT_G_layRows (by decide +kernel)⟩
set_option maxRecDepth 100000 in
set_option maxHeartbeats 4000000 in
theorem zmo_G_areAllEmpty : zmok zMs zI_G_areAllEmpty := ⟨by decide +kernel, ⟨by decide +kernel, by decide +kernel⟩, zwd_ok (a := 2) (b := 238) (by decide +kernel), zwd_ok (a := 1) (b := 7) (by decide +kernel), by decide +kernel, by rw [if_neg (by decide)]; exact ⟨zwd_ok (a := 2) (b := 237) (by decide +kernel), List.mem_filter.mpr ⟨List.mem_append_left _ (List.mem_of_getElem? (i := 9) (by decide +kernel)), by decide +kernel⟩⟩, rfl, by decide +kernel, rfl, fun n e h => by have := zcuts_ok zT_G_areAllEmpty 0 (by decide +kernel) n e h; omega, zall_ok zT_G_areAllEmpty (by decide +kernel)⟩
set_option maxRecDepth 100000 in
set_option maxHeartbeats 4000000 in
theorem zmo_G_findNext : zmok zMs zI_G_findNext := ⟨by decide +kernel, ⟨by decide +kernel, by decide +kernel⟩, zwd_ok (a := 3) (b := 2) (by decide +kernel), zwd_ok (a := 1) (b := 7) (by decide +kernel), by decide +kernel, by rw [if_neg (by decide)]; exact ⟨zwd_ok (a := 3) (b := 1) (by decide +kernel), List.mem_filter.mpr ⟨List.mem_append_left _ (List.mem_of_getElem? (i := 10) (by decide +kernel)), by decide +kernel⟩⟩, rfl, by decide +kernel, rfl, fun n e h => by have := zcuts_ok zT_G_findNext 0 (by decide +kernel) n e h; omega, zall_ok zT_G_findNext (by decide +kernel)⟩
set_option maxRecDepth 100000 in
set_option maxHeartbeats 4000000 in
theorem zmo_G_standsBehindAFirst : zmok zMs zI_G_standsBehindAFirst := ⟨by decide +kernel, ⟨by decide +kernel, by decide +kernel⟩, zwd_ok (a := 3) (b := 6) (by decide +kernel), zwd_ok (a := 1) (b := 7) (by decide +kernel), by decide +kernel, by rw [if_neg (by decide)]; exact ⟨zwd_ok (a := 3) (b := 5) (by decide +kernel), List.mem_filter.mpr ⟨List.mem_append_left _ (List.mem_of_getElem? (i := 11) (by decide +kernel)), by decide +kernel⟩⟩, rfl, by decide +kernel, rfl, fun n e h => by have := zcuts_ok zT_G_standsBehindAFirst 0 (by decide +kernel) n e h; omega, zall_ok zT_G_standsBehindAFirst (by decide +kernel)⟩
set_option maxRecDepth 100000 in
set_option maxHeartbeats 4000000 in
theorem zmo_G_takeOut : zmok zMs zI_G_takeOut := ⟨by decide +kernel, ⟨by decide +kernel, by decide +kernel⟩, zwd_ok (a := 3) (b := 10) (by decide +kernel), zwd_ok (a := 1) (b := 7) (by decide +kernel), by decide +kernel, by rw [if_neg (by decide)]; exact ⟨zwd_ok (a := 3) (b := 9) (by decide +kernel), List.mem_filter.mpr ⟨List.mem_append_left _ (List.mem_of_getElem? (i := 12) (by decide +kernel)), by decide +kernel⟩⟩, rfl, by decide +kernel, rfl, fun n e h => by have := zcuts_ok zT_G_takeOut 0 (by decide +kernel) n e h; omega, zall_ok zT_G_takeOut (by decide +kernel)⟩
set_option maxRecDepth 100000 in
set_option maxHeartbeats 4000000 in
theorem zmo_D_lay : zmok zMs zI_D_lay := ⟨by decide +kernel, ⟨by decide +kernel, by decide +kernel⟩, zwd_ok (a := 2) (b := 170) (by decide +kernel), zwd_ok (a := 1) (b := 8) (by decide +kernel), by decide +kernel, by rw [if_neg (by decide)]; exact ⟨zwd_ok (a := 2) (b := 168) (by decide +kernel), zwd_ok (a := 2) (b := 169) (by decide +kernel)⟩, rfl, by decide +kernel, rfl, fun n e h => by have := zcuts_ok zT_D_lay 0 (by decide +kernel) n e h; omega, zall_ok zT_D_lay (by decide +kernel)⟩
set_option maxRecDepth 100000 in
set_option maxHeartbeats 4000000 in
theorem zmo_D_readText : zmok zMs zI_D_readText := ⟨by decide +kernel, ⟨by decide +kernel, by decide +kernel⟩, zwd_ok (a := 2) (b := 178) (by decide +kernel), zwd_ok (a := 1) (b := 8) (by decide +kernel), by decide +kernel, by rw [if_neg (by decide)]; exact ⟨zwd_ok (a := 2) (b := 176) (by decide +kernel), zwd_ok (a := 2) (b := 177) (by decide +kernel)⟩, rfl, by decide +kernel, rfl, fun n e h => by have := zcuts_ok zT_D_readText 0 (by decide +kernel) n e h; omega, zall_ok zT_D_readText (by decide +kernel)⟩
set_option maxRecDepth 100000 in
set_option maxHeartbeats 4000000 in
theorem zmo_D_readItem : zmok zMs zI_D_readItem := ⟨by decide +kernel, ⟨by decide +kernel, by decide +kernel⟩, zwd_ok (a := 2) (b := 182) (by decide +kernel), zwd_ok (a := 1) (b := 8) (by decide +kernel), by decide +kernel, by rw [if_neg (by decide)]; exact ⟨zwd_ok (a := 2) (b := 181) (by decide +kernel), List.mem_filter.mpr ⟨List.mem_append_left _ (List.mem_of_getElem? (i := 1) (by decide +kernel)), by decide +kernel⟩⟩, rfl, by decide +kernel, rfl, fun n e h => by have := zcuts_ok zT_D_readItem 0 (by decide +kernel) n e h; omega, zall_ok zT_D_readItem (by decide +kernel)⟩
set_option maxRecDepth 100000 in
set_option maxHeartbeats 4000000 in
theorem zmo_D_readParents : zmok zMs zI_D_readParents := ⟨by decide +kernel, ⟨by decide +kernel, by decide +kernel⟩, zwd_ok (a := 2) (b := 207) (by decide +kernel), zwd_ok (a := 1) (b := 8) (by decide +kernel), by decide +kernel, by rw [if_neg (by decide)]; exact ⟨zwd_ok (a := 2) (b := 206) (by decide +kernel), List.mem_filter.mpr ⟨List.mem_append_left _ (List.mem_of_getElem? (i := 6) (by decide +kernel)), by decide +kernel⟩⟩, rfl, by decide +kernel, rfl, fun n e h => by have := zcuts_ok zT_D_readParents 0 (by decide +kernel) n e h; omega, zall_ok zT_D_readParents (by decide +kernel)⟩
set_option maxRecDepth 100000 in
set_option maxHeartbeats 4000000 in
theorem zmo_D_readSlots : zmok zMs zI_D_readSlots := ⟨by decide +kernel, ⟨by decide +kernel, by decide +kernel⟩, zwd_ok (a := 3) (b := 23) (by decide +kernel), zwd_ok (a := 1) (b := 8) (by decide +kernel), by decide +kernel, by rw [if_neg (by decide)]; exact ⟨zwd_ok (a := 3) (b := 22) (by decide +kernel), List.mem_filter.mpr ⟨List.mem_append_left _ (List.mem_of_getElem? (i := 13) (by decide +kernel)), by decide +kernel⟩⟩, rfl, by decide +kernel, rfl, fun n e h => by have := zcuts_ok zT_D_readSlots 0 (by decide +kernel) n e h; omega, zall_ok zT_D_readSlots (by decide +kernel)⟩
set_option maxRecDepth 100000 in
set_option maxHeartbeats 4000000 in
theorem zmo_D_readValue : zmok zMs zI_D_readValue := ⟨by decide +kernel, ⟨by decide +kernel, by decide +kernel⟩, zwd_ok (a := 3) (b := 35) (by decide +kernel), zwd_ok (a := 1) (b := 8) (by decide +kernel), by decide +kernel, by rw [if_neg (by decide)]; exact ⟨zwd_ok (a := 3) (b := 34) (by decide +kernel), List.mem_filter.mpr ⟨List.mem_append_left _ (List.mem_of_getElem? (i := 15) (by decide +kernel)), by decide +kernel⟩⟩, rfl, by decide +kernel, rfl, fun n e h => by have := zcuts_ok zT_D_readValue 0 (by decide +kernel) n e h; omega, zall_ok zT_D_readValue (by decide +kernel)⟩
set_option maxRecDepth 100000 in
set_option maxHeartbeats 4000000 in
theorem zmo_D_readMethod : zmok zMs zI_D_readMethod := ⟨by decide +kernel, ⟨by decide +kernel, by decide +kernel⟩, zwd_ok (a := 3) (b := 27) (by decide +kernel), zwd_ok (a := 1) (b := 8) (by decide +kernel), by decide +kernel, by rw [if_neg (by decide)]; exact ⟨zwd_ok (a := 3) (b := 26) (by decide +kernel), List.mem_filter.mpr ⟨List.mem_append_left _ (List.mem_of_getElem? (i := 14) (by decide +kernel)), by decide +kernel⟩⟩, rfl, by decide +kernel, rfl, fun n e h => by have := zcuts_ok zT_D_readMethod 0 (by decide +kernel) n e h; omega, zall_ok zT_D_readMethod (by decide +kernel)⟩
set_option maxRecDepth 100000 in
set_option maxHeartbeats 4000000 in
theorem zmo_D_readNumber : zmok zMs zI_D_readNumber := ⟨by decide +kernel, ⟨by decide +kernel, by decide +kernel⟩, zwd_ok (a := 2) (b := 211) (by decide +kernel), zwd_ok (a := 1) (b := 8) (by decide +kernel), by decide +kernel, by rw [if_neg (by decide)]; exact ⟨zwd_ok (a := 2) (b := 210) (by decide +kernel), List.mem_filter.mpr ⟨List.mem_append_left _ (List.mem_of_getElem? (i := 7) (by decide +kernel)), by decide +kernel⟩⟩, rfl, by decide +kernel, rfl, fun n e h => by have := zcuts_ok zT_D_readNumber 0 (by decide +kernel) n e h; omega, zall_ok zT_D_readNumber (by decide +kernel)⟩
set_option maxRecDepth 100000 in
set_option maxHeartbeats 4000000 in
theorem zmo_D_pass : zmok zMs zI_D_pass := ⟨by decide +kernel, ⟨by decide +kernel, by decide +kernel⟩, zwd_ok (a := 2) (b := 186) (by decide +kernel), zwd_ok (a := 1) (b := 8) (by decide +kernel), by decide +kernel, by rw [if_neg (by decide)]; exact ⟨zwd_ok (a := 2) (b := 185) (by decide +kernel), List.mem_filter.mpr ⟨List.mem_append_left _ (List.mem_of_getElem? (i := 2) (by decide +kernel)), by decide +kernel⟩⟩, rfl, by decide +kernel, rfl, fun n e h => by have := zcuts_ok zT_D_pass 0 (by decide +kernel) n e h; omega, zall_ok zT_D_pass (by decide +kernel)⟩
set_option maxRecDepth 100000 in
set_option maxHeartbeats 4000000 in
theorem zmo_D_stands : zmok zMs zI_D_stands := ⟨by decide +kernel, ⟨by decide +kernel, by decide +kernel⟩, zwd_ok (a := 2) (b := 190) (by decide +kernel), zwd_ok (a := 1) (b := 8) (by decide +kernel), by decide +kernel, by rw [if_neg (by decide)]; exact ⟨zwd_ok (a := 2) (b := 189) (by decide +kernel), List.mem_filter.mpr ⟨List.mem_append_left _ (List.mem_of_getElem? (i := 3) (by decide +kernel)), by decide +kernel⟩⟩, rfl, by decide +kernel, rfl, fun n e h => by have := zcuts_ok zT_D_stands 0 (by decide +kernel) n e h; omega, zall_ok zT_D_stands (by decide +kernel)⟩
set_option maxRecDepth 100000 in
set_option maxHeartbeats 4000000 in
theorem zmo_D_digitStands : zmok zMs zI_D_digitStands := ⟨by decide +kernel, ⟨by decide +kernel, by decide +kernel⟩, zwd_ok (a := 2) (b := 198) (by decide +kernel), zwd_ok (a := 1) (b := 8) (by decide +kernel), by decide +kernel, by rw [if_neg (by decide)]; exact ⟨zwd_ok (a := 2) (b := 197) (by decide +kernel), List.mem_filter.mpr ⟨List.mem_append_left _ (List.mem_of_getElem? (i := 5) (by decide +kernel)), by decide +kernel⟩⟩, rfl, by decide +kernel, rfl, fun n e h => by have := zcuts_ok zT_D_digitStands 0 (by decide +kernel) n e h; omega, zall_ok zT_D_digitStands (by decide +kernel)⟩
set_option maxRecDepth 100000 in
set_option maxHeartbeats 4000000 in
theorem zmo_D_markFault : zmok zMs zI_D_markFault := ⟨by decide +kernel, ⟨by decide +kernel, by decide +kernel⟩, zwd_ok (a := 2) (b := 194) (by decide +kernel), zwd_ok (a := 1) (b := 8) (by decide +kernel), by decide +kernel, by rw [if_neg (by decide)]; exact ⟨zwd_ok (a := 2) (b := 193) (by decide +kernel), List.mem_filter.mpr ⟨List.mem_append_left _ (List.mem_of_getElem? (i := 4) (by decide +kernel)), by decide +kernel⟩⟩, rfl, by decide +kernel, rfl, fun n e h => by have := zcuts_ok zT_D_markFault 0 (by decide +kernel) n e h; omega, zall_ok zT_D_markFault (by decide +kernel)⟩
set_option maxRecDepth 100000 in
set_option maxHeartbeats 4000000 in
theorem zmo_U_beginAct : zmok zMs zI_U_beginAct := ⟨by decide +kernel, ⟨by decide +kernel, by decide +kernel⟩, zwd_ok (a := 3) (b := 160) (by decide +kernel), zwd_ok (a := 1) (b := 2) (by decide +kernel), by decide +kernel, by rw [if_neg (by decide)]; exact ⟨zwd_ok (a := 3) (b := 158) (by decide +kernel), zwd_ok (a := 3) (b := 159) (by decide +kernel)⟩, rfl, by decide +kernel, rfl, fun n e h => by have := zcuts_ok zT_U_beginAct 0 (by decide +kernel) n e h; omega, zall_ok zT_U_beginAct (by decide +kernel)⟩
set_option maxRecDepth 100000 in
set_option maxHeartbeats 4000000 in
theorem zmo_U_sendSlot : zmok zMs zI_U_sendSlot := ⟨by decide +kernel, ⟨by decide +kernel, by decide +kernel⟩, zwd_ok (a := 3) (b := 164) (by decide +kernel), zwd_ok (a := 1) (b := 2) (by decide +kernel), by decide +kernel, by rw [if_neg (by decide)]; exact ⟨zwd_ok (a := 3) (b := 162) (by decide +kernel), zwd_ok (a := 3) (b := 163) (by decide +kernel)⟩, rfl, by decide +kernel, rfl, fun n e h => by have := zcuts_ok zT_U_sendSlot 0 (by decide +kernel) n e h; omega, zall_ok zT_U_sendSlot (by decide +kernel)⟩
set_option maxRecDepth 100000 in
set_option maxHeartbeats 4000000 in
theorem zmo_U_callGeneric : zmok zMs zI_U_callGeneric := ⟨by decide +kernel, ⟨by decide +kernel, by decide +kernel⟩, zwd_ok (a := 4) (b := 73) (by decide +kernel), zwd_ok (a := 1) (b := 2) (by decide +kernel), by decide +kernel, by rw [if_neg (by decide)]; exact ⟨zwd_ok (a := 4) (b := 71) (by decide +kernel), zwd_ok (a := 4) (b := 72) (by decide +kernel)⟩, rfl, by decide +kernel, rfl, fun n e h => by have := zcuts_ok zT_U_callGeneric 0 (by decide +kernel) n e h; omega, zall_ok zT_U_callGeneric (by decide +kernel)⟩
set_option maxRecDepth 100000 in
set_option maxHeartbeats 4000000 in
theorem zmo_U_undo : zmok zMs zI_U_undo := ⟨by decide +kernel, ⟨by decide +kernel, by decide +kernel⟩, zwd_ok (a := 4) (b := 4) (by decide +kernel), zwd_ok (a := 1) (b := 2) (by decide +kernel), by decide +kernel, by rw [if_neg (by decide)]; exact ⟨zwd_ok (a := 4) (b := 2) (by decide +kernel), zwd_ok (a := 4) (b := 3) (by decide +kernel)⟩, rfl, by decide +kernel, rfl, fun n e h => by have := zcuts_ok zT_U_undo 0 (by decide +kernel) n e h; omega, zall_ok zT_U_undo (by decide +kernel)⟩
set_option maxRecDepth 100000 in
set_option maxHeartbeats 4000000 in
theorem zmo_U_save : zmok zMs zI_U_save := ⟨by decide +kernel, ⟨by decide +kernel, by decide +kernel⟩, zwd_ok (a := 3) (b := 176) (by decide +kernel), zwd_ok (a := 1) (b := 2) (by decide +kernel), by decide +kernel, by rw [if_neg (by decide)]; exact ⟨zwd_ok (a := 3) (b := 175) (by decide +kernel), List.mem_filter.mpr ⟨List.mem_append_left _ (List.mem_of_getElem? (i := 20) (by decide +kernel)), by decide +kernel⟩⟩, rfl, by decide +kernel, rfl, fun n e h => by have := zcuts_ok zT_U_save 0 (by decide +kernel) n e h; omega, zall_ok zT_U_save (by decide +kernel)⟩
set_option maxRecDepth 100000 in
set_option maxHeartbeats 4000000 in
theorem zmo_U_carryOut : zmok zMs zI_U_carryOut := ⟨by decide +kernel, ⟨by decide +kernel, by decide +kernel⟩, zwd_ok (a := 3) (b := 172) (by decide +kernel), zwd_ok (a := 1) (b := 2) (by decide +kernel), by decide +kernel, by rw [if_neg (by decide)]; exact ⟨zwd_ok (a := 3) (b := 171) (by decide +kernel), List.mem_filter.mpr ⟨List.mem_append_left _ (List.mem_of_getElem? (i := 19) (by decide +kernel)), by decide +kernel⟩⟩, rfl, by decide +kernel, rfl, fun n e h => by have := zcuts_ok zT_U_carryOut 0 (by decide +kernel) n e h; omega, zall_ok zT_U_carryOut (by decide +kernel)⟩
set_option maxRecDepth 100000 in
set_option maxHeartbeats 4000000 in
theorem zmo_U_takeStep : zmok zMs zI_U_takeStep := ⟨by decide +kernel, ⟨by decide +kernel, by decide +kernel⟩, zwd_ok (a := 3) (b := 181) (by decide +kernel), zwd_ok (a := 1) (b := 2) (by decide +kernel), by decide +kernel, by rw [if_neg (by decide)]; exact ⟨zwd_ok (a := 3) (b := 180) (by decide +kernel), List.mem_filter.mpr ⟨List.mem_append_left _ (List.mem_of_getElem? (i := 21) (by decide +kernel)), by decide +kernel⟩⟩, rfl, by decide +kernel, rfl, fun n e h => by have := zcuts_ok zT_U_takeStep 0 (by decide +kernel) n e h; omega, zall_ok zT_U_takeStep (by decide +kernel)⟩
set_option maxRecDepth 100000 in
set_option maxHeartbeats 4000000 in
theorem zmo_U_comeNextTo : zmok zMs zI_U_comeNextTo := ⟨by decide +kernel, ⟨by decide +kernel, by decide +kernel⟩, zwd_ok (a := 3) (b := 168) (by decide +kernel), zwd_ok (a := 1) (b := 2) (by decide +kernel), by decide +kernel, by rw [if_neg (by decide)]; exact ⟨zwd_ok (a := 3) (b := 167) (by decide +kernel), List.mem_filter.mpr ⟨List.mem_append_left _ (List.mem_of_getElem? (i := 18) (by decide +kernel)), by decide +kernel⟩⟩, rfl, by decide +kernel, rfl, fun n e h => by have := zcuts_ok zT_U_comeNextTo 0 (by decide +kernel) n e h; omega, zall_ok zT_U_comeNextTo (by decide +kernel)⟩
set_option maxRecDepth 100000 in
set_option maxHeartbeats 4000000 in
theorem zmo_U_give : zmok zMs zI_U_give := ⟨by decide +kernel, ⟨by decide +kernel, by decide +kernel⟩, zwd_ok (a := 3) (b := 191) (by decide +kernel), zwd_ok (a := 1) (b := 2) (by decide +kernel), by decide +kernel, by rw [if_neg (by decide)]; exact ⟨zwd_ok (a := 3) (b := 190) (by decide +kernel), List.mem_filter.mpr ⟨List.mem_append_left _ (List.mem_of_getElem? (i := 23) (by decide +kernel)), by decide +kernel⟩⟩, rfl, by decide +kernel, rfl, fun n e h => by have := zcuts_ok zT_U_give 0 (by decide +kernel) n e h; omega, zall_ok zT_U_give (by decide +kernel)⟩
set_option maxRecDepth 100000 in
set_option maxHeartbeats 4000000 in
theorem zmo_U_comeToSlot : zmok zMs zI_U_comeToSlot := ⟨by decide +kernel, ⟨by decide +kernel, by decide +kernel⟩, zwd_ok (a := 3) (b := 185) (by decide +kernel), zwd_ok (a := 1) (b := 2) (by decide +kernel), by decide +kernel, by rw [if_neg (by decide)]; exact ⟨zwd_ok (a := 3) (b := 184) (by decide +kernel), List.mem_filter.mpr ⟨List.mem_append_left _ (List.mem_of_getElem? (i := 22) (by decide +kernel)), by decide +kernel⟩⟩, rfl, by decide +kernel, rfl, fun n e h => by have := zcuts_ok zT_U_comeToSlot 0 (by decide +kernel) n e h; omega, zall_ok zT_U_comeToSlot (by decide +kernel)⟩
set_option maxRecDepth 100000 in
set_option maxHeartbeats 4000000 in
theorem zmo_U_comeToWay : zmok zMs zI_U_comeToWay := ⟨by decide +kernel, ⟨by decide +kernel, by decide +kernel⟩, zwd_ok (a := 3) (b := 199) (by decide +kernel), zwd_ok (a := 1) (b := 2) (by decide +kernel), by decide +kernel, by rw [if_neg (by decide)]; exact ⟨zwd_ok (a := 3) (b := 198) (by decide +kernel), List.mem_filter.mpr ⟨List.mem_append_left _ (List.mem_of_getElem? (i := 25) (by decide +kernel)), by decide +kernel⟩⟩, rfl, by decide +kernel, rfl, fun n e h => by have := zcuts_ok zT_U_comeToWay 0 (by decide +kernel) n e h; omega, zall_ok zT_U_comeToWay (by decide +kernel)⟩
set_option maxRecDepth 100000 in
set_option maxHeartbeats 4000000 in
theorem zmo_U_startWay : zmok zMs zI_U_startWay := ⟨by decide +kernel, ⟨by decide +kernel, by decide +kernel⟩, zwd_ok (a := 3) (b := 207) (by decide +kernel), zwd_ok (a := 1) (b := 2) (by decide +kernel), by decide +kernel, by rw [if_neg (by decide)]; exact ⟨zwd_ok (a := 3) (b := 206) (by decide +kernel), List.mem_filter.mpr ⟨List.mem_append_left _ (List.mem_of_getElem? (i := 26) (by decide +kernel)), by decide +kernel⟩⟩, rfl, by decide +kernel, rfl, fun n e h => by have := zcuts_ok zT_U_startWay 0 (by decide +kernel) n e h; omega, zall_ok zT_U_startWay (by decide +kernel)⟩
set_option maxRecDepth 100000 in
set_option maxHeartbeats 4000000 in
theorem zmo_U_startMethod : zmok zMs zI_U_startMethod := ⟨by decide +kernel, ⟨by decide +kernel, by decide +kernel⟩, zwd_ok (a := 3) (b := 195) (by decide +kernel), zwd_ok (a := 1) (b := 2) (by decide +kernel), by decide +kernel, by rw [if_neg (by decide)]; exact ⟨zwd_ok (a := 3) (b := 194) (by decide +kernel), List.mem_filter.mpr ⟨List.mem_append_left _ (List.mem_of_getElem? (i := 24) (by decide +kernel)), by decide +kernel⟩⟩, rfl, by decide +kernel, rfl, fun n e h => by have := zcuts_ok zT_U_startMethod 0 (by decide +kernel) n e h; omega, zall_ok zT_U_startMethod (by decide +kernel)⟩
set_option maxRecDepth 100000 in
set_option maxHeartbeats 4000000 in
theorem zmo_U_run : zmok zMs zI_U_run := ⟨by decide +kernel, ⟨by decide +kernel, by decide +kernel⟩, zwd_ok (a := 3) (b := 223) (by decide +kernel), zwd_ok (a := 1) (b := 2) (by decide +kernel), by decide +kernel, by rw [if_neg (by decide)]; exact ⟨zwd_ok (a := 3) (b := 222) (by decide +kernel), List.mem_filter.mpr ⟨List.mem_append_left _ (List.mem_of_getElem? (i := 29) (by decide +kernel)), by decide +kernel⟩⟩, rfl, by decide +kernel, rfl, fun n e h => by have := zcuts_ok zT_U_run 0 (by decide +kernel) n e h; omega, zall_ok zT_U_run (by decide +kernel)⟩
set_option maxRecDepth 100000 in
set_option maxHeartbeats 4000000 in
theorem zmo_U_setOwn : zmok zMs zI_U_setOwn := ⟨by decide +kernel, ⟨by decide +kernel, by decide +kernel⟩, zwd_ok (a := 3) (b := 230) (by decide +kernel), zwd_ok (a := 1) (b := 2) (by decide +kernel), by decide +kernel, by rw [if_neg (by decide)]; exact ⟨zwd_ok (a := 3) (b := 229) (by decide +kernel), List.mem_filter.mpr ⟨List.mem_append_left _ (List.mem_of_getElem? (i := 30) (by decide +kernel)), by decide +kernel⟩⟩, rfl, by decide +kernel, rfl, fun n e h => by have := zcuts_ok zT_U_setOwn 0 (by decide +kernel) n e h; omega, zall_ok zT_U_setOwn (by decide +kernel)⟩
set_option maxRecDepth 100000 in
set_option maxHeartbeats 4000000 in
theorem zmo_U_leave : zmok zMs zI_U_leave := ⟨by decide +kernel, ⟨by decide +kernel, by decide +kernel⟩, zwd_ok (a := 3) (b := 215) (by decide +kernel), zwd_ok (a := 1) (b := 2) (by decide +kernel), by decide +kernel, by rw [if_neg (by decide)]; exact ⟨zwd_ok (a := 3) (b := 214) (by decide +kernel), List.mem_filter.mpr ⟨List.mem_append_left _ (List.mem_of_getElem? (i := 27) (by decide +kernel)), by decide +kernel⟩⟩, rfl, by decide +kernel, rfl, fun n e h => by have := zcuts_ok zT_U_leave 0 (by decide +kernel) n e h; omega, zall_ok zT_U_leave (by decide +kernel)⟩
set_option maxRecDepth 100000 in
set_option maxHeartbeats 4000000 in
theorem zmo_U_giveToFrame : zmok zMs zI_U_giveToFrame := ⟨by decide +kernel, ⟨by decide +kernel, by decide +kernel⟩, zwd_ok (a := 3) (b := 236) (by decide +kernel), zwd_ok (a := 1) (b := 2) (by decide +kernel), by decide +kernel, by rw [if_neg (by decide)]; exact ⟨zwd_ok (a := 3) (b := 235) (by decide +kernel), List.mem_filter.mpr ⟨List.mem_append_left _ (List.mem_of_getElem? (i := 31) (by decide +kernel)), by decide +kernel⟩⟩, rfl, by decide +kernel, rfl, fun n e h => by have := zcuts_ok zT_U_giveToFrame 0 (by decide +kernel) n e h; omega, zall_ok zT_U_giveToFrame (by decide +kernel)⟩
set_option maxRecDepth 100000 in
set_option maxHeartbeats 4000000 in
theorem zmo_U_goOnInCore : zmok zMs zI_U_goOnInCore := ⟨by decide +kernel, ⟨by decide +kernel, by decide +kernel⟩, zwd_ok (a := 3) (b := 219) (by decide +kernel), zwd_ok (a := 1) (b := 2) (by decide +kernel), by decide +kernel, by rw [if_neg (by decide)]; exact ⟨zwd_ok (a := 3) (b := 218) (by decide +kernel), List.mem_filter.mpr ⟨List.mem_append_left _ (List.mem_of_getElem? (i := 28) (by decide +kernel)), by decide +kernel⟩⟩, rfl, by decide +kernel, rfl, fun n e h => by have := zcuts_ok zT_U_goOnInCore 0 (by decide +kernel) n e h; omega, zall_ok zT_U_goOnInCore (by decide +kernel)⟩
set_option maxRecDepth 100000 in
set_option maxHeartbeats 4000000 in
theorem zmo_U_failFrame : zmok zMs zI_U_failFrame := ⟨by decide +kernel, ⟨by decide +kernel, by decide +kernel⟩, zwd_ok (a := 4) (b := 0) (by decide +kernel), zwd_ok (a := 1) (b := 2) (by decide +kernel), by decide +kernel, by rw [if_neg (by decide)]; exact ⟨zwd_ok (a := 3) (b := 239) (by decide +kernel), List.mem_filter.mpr ⟨List.mem_append_left _ (List.mem_of_getElem? (i := 32) (by decide +kernel)), by decide +kernel⟩⟩, rfl, by decide +kernel, rfl, fun n e h => by have := zcuts_ok zT_U_failFrame 0 (by decide +kernel) n e h; omega, zall_ok zT_U_failFrame (by decide +kernel)⟩
set_option maxRecDepth 100000 in
set_option maxHeartbeats 4000000 in
theorem zmo_H_isShelf : zmok zMs zI_H_isShelf := ⟨by decide +kernel, ⟨by decide +kernel, by decide +kernel⟩, zwd_ok (a := 2) (b := 57) (by decide +kernel), zwd_ok (a := 1) (b := 5) (by decide +kernel), by decide +kernel, by rw [if_neg (by decide)]; exact ⟨zwd_ok (a := 2) (b := 55) (by decide +kernel), zwd_ok (a := 2) (b := 56) (by decide +kernel)⟩, rfl, by decide +kernel, rfl, fun n e h => by have := zcuts_ok zT_H_isShelf 0 (by decide +kernel) n e h; omega, zall_ok zT_H_isShelf (by decide +kernel)⟩
set_option maxRecDepth 100000 in
set_option maxHeartbeats 4000000 in
theorem zmo_H_holdsRow : zmok zMs zI_H_holdsRow := ⟨by decide +kernel, ⟨by decide +kernel, by decide +kernel⟩, zwd_ok (a := 2) (b := 88) (by decide +kernel), zwd_ok (a := 1) (b := 5) (by decide +kernel), by decide +kernel, by rw [if_neg (by decide)]; exact ⟨zwd_ok (a := 2) (b := 86) (by decide +kernel), zwd_ok (a := 2) (b := 87) (by decide +kernel)⟩, rfl, by decide +kernel, rfl, fun n e h => by have := zcuts_ok zT_H_holdsRow 0 (by decide +kernel) n e h; omega, zall_ok zT_H_holdsRow (by decide +kernel)⟩
set_option maxRecDepth 100000 in
set_option maxHeartbeats 4000000 in
theorem zmo_H_holdsObject : zmok zMs zI_H_holdsObject := ⟨by decide +kernel, ⟨by decide +kernel, by decide +kernel⟩, zwd_ok (a := 2) (b := 84) (by decide +kernel), zwd_ok (a := 1) (b := 5) (by decide +kernel), by decide +kernel, by rw [if_neg (by decide)]; exact ⟨zwd_ok (a := 2) (b := 82) (by decide +kernel), zwd_ok (a := 2) (b := 83) (by decide +kernel)⟩, rfl, by decide +kernel, rfl, fun n e h => by have := zcuts_ok zT_H_holdsObject 0 (by decide +kernel) n e h; omega, zall_ok zT_H_holdsObject (by decide +kernel)⟩
set_option maxRecDepth 100000 in
set_option maxHeartbeats 4000000 in
theorem zmo_H_areOfTwoSorts : zmok zMs zI_H_areOfTwoSorts := ⟨by decide +kernel, ⟨by decide +kernel, by decide +kernel⟩, zwd_ok (a := 2) (b := 105) (by decide +kernel), zwd_ok (a := 1) (b := 5) (by decide +kernel), by decide +kernel, by rw [if_neg (by decide)]; exact ⟨zwd_ok (a := 2) (b := 103) (by decide +kernel), zwd_ok (a := 2) (b := 104) (by decide +kernel)⟩, rfl, by decide +kernel, rfl, fun n e h => by have := zcuts_ok zT_H_areOfTwoSorts 0 (by decide +kernel) n e h; omega, zall_ok zT_H_areOfTwoSorts (by decide +kernel)⟩
set_option maxRecDepth 100000 in
set_option maxHeartbeats 4000000 in
theorem zmo_H_whyNoRow : zmok zMs zI_H_whyNoRow := ⟨by decide +kernel, ⟨by decide +kernel, by decide +kernel⟩, zwd_ok (a := 2) (b := 79) (by decide +kernel), zwd_ok (a := 1) (b := 5) (by decide +kernel), by decide +kernel, by rw [if_neg (by decide)]; exact ⟨zwd_ok (a := 2) (b := 77) (by decide +kernel), zwd_ok (a := 2) (b := 78) (by decide +kernel)⟩, rfl, by decide +kernel, rfl, fun n e h => by have := zcuts_ok zT_H_whyNoRow 0 (by decide +kernel) n e h; omega, zall_ok zT_H_whyNoRow (by decide +kernel)⟩
set_option maxRecDepth 100000 in
set_option maxHeartbeats 4000000 in
theorem zmo_H_lay : zmok zMs zI_H_lay := ⟨by decide +kernel, ⟨by decide +kernel, by decide +kernel⟩, zwd_ok (a := 2) (b := 65) (by decide +kernel), zwd_ok (a := 1) (b := 5) (by decide +kernel), by decide +kernel, by rw [if_neg (by decide)]; exact ⟨zwd_ok (a := 2) (b := 63) (by decide +kernel), zwd_ok (a := 2) (b := 64) (by decide +kernel)⟩, rfl, by decide +kernel, rfl, fun n e h => by have := zcuts_ok zT_H_lay 0 (by decide +kernel) n e h; omega, zall_ok zT_H_lay (by decide +kernel)⟩
set_option maxRecDepth 100000 in
set_option maxHeartbeats 4000000 in
theorem zmo_H_hasElement : zmok zMs zI_H_hasElement := ⟨by decide +kernel, ⟨by decide +kernel, by decide +kernel⟩, zwd_ok (a := 2) (b := 92) (by decide +kernel), zwd_ok (a := 1) (b := 5) (by decide +kernel), by decide +kernel, by rw [if_neg (by decide)]; exact ⟨zwd_ok (a := 2) (b := 90) (by decide +kernel), zwd_ok (a := 2) (b := 91) (by decide +kernel)⟩, rfl, by decide +kernel, rfl, fun n e h => by have := zcuts_ok zT_H_hasElement 0 (by decide +kernel) n e h; omega, zall_ok zT_H_hasElement (by decide +kernel)⟩
set_option maxRecDepth 100000 in
set_option maxHeartbeats 4000000 in
theorem zmo_H_hasStretch : zmok zMs zI_H_hasStretch := ⟨by decide +kernel, ⟨by decide +kernel, by decide +kernel⟩, zwd_ok (a := 2) (b := 110) (by decide +kernel), zwd_ok (a := 1) (b := 5) (by decide +kernel), by decide +kernel, by rw [if_neg (by decide)]; exact ⟨zwd_ok (a := 2) (b := 108) (by decide +kernel), zwd_ok (a := 2) (b := 109) (by decide +kernel)⟩, rfl, by decide +kernel, rfl, fun n e h => by have := zcuts_ok zT_H_hasStretch 0 (by decide +kernel) n e h; omega, zall_ok zT_H_hasStretch (by decide +kernel)⟩
set_option maxRecDepth 100000 in
set_option maxHeartbeats 4000000 in
theorem zmo_H_put : zmok zMs zI_H_put := ⟨by decide +kernel, ⟨by decide +kernel, by decide +kernel⟩, zwd_ok (a := 2) (b := 96) (by decide +kernel), zwd_ok (a := 1) (b := 5) (by decide +kernel), by decide +kernel, by rw [if_neg (by decide)]; exact ⟨zwd_ok (a := 2) (b := 94) (by decide +kernel), zwd_ok (a := 2) (b := 95) (by decide +kernel)⟩, rfl, by decide +kernel, rfl, fun n e h => by have := zcuts_ok zT_H_put 0 (by decide +kernel) n e h; omega, zall_ok zT_H_put (by decide +kernel)⟩
set_option maxRecDepth 100000 in
set_option maxHeartbeats 4000000 in
theorem zmo_H_move : zmok zMs zI_H_move := ⟨by decide +kernel, ⟨by decide +kernel, by decide +kernel⟩, zwd_ok (a := 2) (b := 114) (by decide +kernel), zwd_ok (a := 1) (b := 5) (by decide +kernel), by decide +kernel, by rw [if_neg (by decide)]; exact ⟨zwd_ok (a := 2) (b := 112) (by decide +kernel), zwd_ok (a := 2) (b := 113) (by decide +kernel)⟩, rfl, by decide +kernel, rfl, fun n e h => by have := zcuts_ok zT_H_move 0 (by decide +kernel) n e h; omega, zall_ok zT_H_move (by decide +kernel)⟩
set_option maxRecDepth 100000 in
set_option maxHeartbeats 4000000 in
theorem zmo_H_longAt : zmok zMs zI_H_longAt := ⟨by decide +kernel, ⟨by decide +kernel, by decide +kernel⟩, zwd_ok (a := 2) (b := 125) (by decide +kernel), zwd_ok (a := 1) (b := 5) (by decide +kernel), by decide +kernel, by rw [if_neg (by decide)]; exact ⟨zwd_ok (a := 2) (b := 123) (by decide +kernel), zwd_ok (a := 2) (b := 124) (by decide +kernel)⟩, rfl, by decide +kernel, rfl, fun n e h => by have := zcuts_ok zT_H_longAt 0 (by decide +kernel) n e h; omega, zall_ok zT_H_longAt (by decide +kernel)⟩
set_option maxRecDepth 100000 in
set_option maxHeartbeats 4000000 in
theorem zmo_H_intAt : zmok zMs zI_H_intAt := ⟨by decide +kernel, ⟨by decide +kernel, by decide +kernel⟩, zwd_ok (a := 2) (b := 174) (by decide +kernel), zwd_ok (a := 1) (b := 5) (by decide +kernel), by decide +kernel, by rw [if_neg (by decide)]; exact ⟨zwd_ok (a := 2) (b := 172) (by decide +kernel), zwd_ok (a := 2) (b := 173) (by decide +kernel)⟩, rfl, by decide +kernel, rfl, fun n e h => by have := zcuts_ok zT_H_intAt 0 (by decide +kernel) n e h; omega, zall_ok zT_H_intAt (by decide +kernel)⟩
set_option maxRecDepth 100000 in
set_option maxHeartbeats 4000000 in
theorem zmo_H_dropObjectsFrom : zmok zMs zI_H_dropObjectsFrom := ⟨by decide +kernel, ⟨by decide +kernel, by decide +kernel⟩, zwd_ok (a := 4) (b := 122) (by decide +kernel), zwd_ok (a := 1) (b := 5) (by decide +kernel), by decide +kernel, by rw [if_neg (by decide)]; exact ⟨zwd_ok (a := 4) (b := 120) (by decide +kernel), zwd_ok (a := 4) (b := 121) (by decide +kernel)⟩, rfl, by decide +kernel, rfl, fun n e h => by have := zcuts_ok zT_H_dropObjectsFrom 0 (by decide +kernel) n e h; omega, zall_ok zT_H_dropObjectsFrom (by decide +kernel)⟩
set_option maxRecDepth 100000 in
set_option maxHeartbeats 4000000 in
theorem zmo_W_hasObject : zmok zMs zI_W_hasObject := ⟨by decide +kernel, ⟨by decide +kernel, by decide +kernel⟩, zwd_ok (a := 2) (b := 133) (by decide +kernel), zwd_ok (a := 1) (b := 3) (by decide +kernel), by decide +kernel, by rw [if_neg (by decide)]; exact ⟨zwd_ok (a := 2) (b := 131) (by decide +kernel), zwd_ok (a := 2) (b := 132) (by decide +kernel)⟩, rfl, by decide +kernel, rfl, fun n e h => by have := zcuts_ok zT_W_hasObject 0 (by decide +kernel) n e h; omega, zall_ok zT_W_hasObject (by decide +kernel)⟩
set_option maxRecDepth 100000 in
set_option maxHeartbeats 4000000 in
theorem zmo_W_isFull : zmok zMs zI_W_isFull := ⟨by decide +kernel, ⟨by decide +kernel, by decide +kernel⟩, zwd_ok (a := 2) (b := 224) (by decide +kernel), zwd_ok (a := 1) (b := 3) (by decide +kernel), by decide +kernel, by rw [if_neg (by decide)]; exact ⟨zwd_ok (a := 2) (b := 222) (by decide +kernel), zwd_ok (a := 2) (b := 223) (by decide +kernel)⟩, rfl, by decide +kernel, rfl, fun n e h => by have := zcuts_ok zT_W_isFull 0 (by decide +kernel) n e h; omega, zall_ok zT_W_isFull (by decide +kernel)⟩
set_option maxRecDepth 100000 in
set_option maxHeartbeats 4000000 in
theorem zmo_W_addObject : zmok zMs zI_W_addObject := ⟨by decide +kernel, ⟨by decide +kernel, by decide +kernel⟩, zwd_ok (a := 3) (b := 14) (by decide +kernel), zwd_ok (a := 1) (b := 3) (by decide +kernel), by decide +kernel, by rw [if_neg (by decide)]; exact ⟨zwd_ok (a := 3) (b := 12) (by decide +kernel), zwd_ok (a := 3) (b := 13) (by decide +kernel)⟩, rfl, by decide +kernel, rfl, fun n e h => by have := zcuts_ok zT_W_addObject 0 (by decide +kernel) n e h; omega, zall_ok zT_W_addObject (by decide +kernel)⟩
set_option maxRecDepth 100000 in
set_option maxHeartbeats 4000000 in
theorem zmo_W_parentAt : zmok zMs zI_W_parentAt := ⟨by decide +kernel, ⟨by decide +kernel, by decide +kernel⟩, zwd_ok (a := 3) (b := 100) (by decide +kernel), zwd_ok (a := 1) (b := 3) (by decide +kernel), by decide +kernel, by rw [if_neg (by decide)]; exact ⟨zwd_ok (a := 3) (b := 98) (by decide +kernel), zwd_ok (a := 3) (b := 99) (by decide +kernel)⟩, rfl, by decide +kernel, rfl, fun n e h => by have := zcuts_ok zT_W_parentAt 0 (by decide +kernel) n e h; omega, zall_ok zT_W_parentAt (by decide +kernel)⟩
set_option maxRecDepth 100000 in
set_option maxHeartbeats 4000000 in
theorem zmo_W_orderAt : zmok zMs zI_W_orderAt := ⟨by decide +kernel, ⟨by decide +kernel, by decide +kernel⟩, zwd_ok (a := 3) (b := 108) (by decide +kernel), zwd_ok (a := 1) (b := 3) (by decide +kernel), by decide +kernel, by rw [if_neg (by decide)]; exact ⟨zwd_ok (a := 3) (b := 106) (by decide +kernel), zwd_ok (a := 3) (b := 107) (by decide +kernel)⟩, rfl, by decide +kernel, rfl, fun n e h => by have := zcuts_ok zT_W_orderAt 0 (by decide +kernel) n e h; omega, zall_ok zT_W_orderAt (by decide +kernel)⟩
set_option maxRecDepth 100000 in
set_option maxHeartbeats 4000000 in
theorem zmo_W_wayPart : zmok zMs zI_W_wayPart := ⟨by decide +kernel, ⟨by decide +kernel, by decide +kernel⟩, zwd_ok (a := 3) (b := 211) (by decide +kernel), zwd_ok (a := 1) (b := 3) (by decide +kernel), by decide +kernel, by rw [if_neg (by decide)]; exact ⟨zwd_ok (a := 3) (b := 209) (by decide +kernel), zwd_ok (a := 3) (b := 210) (by decide +kernel)⟩, rfl, by decide +kernel, rfl, fun n e h => by have := zcuts_ok zT_W_wayPart 0 (by decide +kernel) n e h; omega, zall_ok zT_W_wayPart (by decide +kernel)⟩
set_option maxRecDepth 100000 in
set_option maxHeartbeats 4000000 in
theorem zmo_W_isOfKind : zmok zMs zI_W_isOfKind := ⟨by decide +kernel, ⟨by decide +kernel, by decide +kernel⟩, zwd_ok (a := 2) (b := 148) (by decide +kernel), zwd_ok (a := 1) (b := 3) (by decide +kernel), by decide +kernel, by rw [if_neg (by decide)]; exact ⟨zwd_ok (a := 2) (b := 146) (by decide +kernel), zwd_ok (a := 2) (b := 147) (by decide +kernel)⟩, rfl, by decide +kernel, rfl, fun n e h => by have := zcuts_ok zT_W_isOfKind 0 (by decide +kernel) n e h; omega, zall_ok zT_W_isOfKind (by decide +kernel)⟩
set_option maxRecDepth 100000 in
set_option maxHeartbeats 4000000 in
theorem zmo_W_distanceTo : zmok zMs zI_W_distanceTo := ⟨by decide +kernel, ⟨by decide +kernel, by decide +kernel⟩, zwd_ok (a := 3) (b := 117) (by decide +kernel), zwd_ok (a := 1) (b := 3) (by decide +kernel), by decide +kernel, by rw [if_neg (by decide)]; exact ⟨zwd_ok (a := 3) (b := 115) (by decide +kernel), zwd_ok (a := 3) (b := 116) (by decide +kernel)⟩, rfl, by decide +kernel, rfl, fun n e h => by have := zcuts_ok zT_W_distanceTo 0 (by decide +kernel) n e h; omega, zall_ok zT_W_distanceTo (by decide +kernel)⟩
set_option maxRecDepth 100000 in
set_option maxHeartbeats 4000000 in
theorem zmo_W_hasOwn : zmok zMs zI_W_hasOwn := ⟨by decide +kernel, ⟨by decide +kernel, by decide +kernel⟩, zwd_ok (a := 2) (b := 156) (by decide +kernel), zwd_ok (a := 1) (b := 3) (by decide +kernel), by decide +kernel, by rw [if_neg (by decide)]; exact ⟨zwd_ok (a := 2) (b := 154) (by decide +kernel), zwd_ok (a := 2) (b := 155) (by decide +kernel)⟩, rfl, by decide +kernel, rfl, fun n e h => by have := zcuts_ok zT_W_hasOwn 0 (by decide +kernel) n e h; omega, zall_ok zT_W_hasOwn (by decide +kernel)⟩
set_option maxRecDepth 100000 in
set_option maxHeartbeats 4000000 in
theorem zmo_W_putValue : zmok zMs zI_W_putValue := ⟨by decide +kernel, ⟨by decide +kernel, by decide +kernel⟩, zwd_ok (a := 3) (b := 39) (by decide +kernel), zwd_ok (a := 1) (b := 3) (by decide +kernel), by decide +kernel, by rw [if_neg (by decide)]; exact ⟨zwd_ok (a := 3) (b := 37) (by decide +kernel), zwd_ok (a := 3) (b := 38) (by decide +kernel)⟩, rfl, by decide +kernel, rfl, fun n e h => by have := zcuts_ok zT_W_putValue 0 (by decide +kernel) n e h; omega, zall_ok zT_W_putValue (by decide +kernel)⟩
set_option maxRecDepth 100000 in
set_option maxHeartbeats 4000000 in
theorem zmo_W_putMethod : zmok zMs zI_W_putMethod := ⟨by decide +kernel, ⟨by decide +kernel, by decide +kernel⟩, zwd_ok (a := 3) (b := 31) (by decide +kernel), zwd_ok (a := 1) (b := 3) (by decide +kernel), by decide +kernel, by rw [if_neg (by decide)]; exact ⟨zwd_ok (a := 3) (b := 29) (by decide +kernel), zwd_ok (a := 3) (b := 30) (by decide +kernel)⟩, rfl, by decide +kernel, rfl, fun n e h => by have := zcuts_ok zT_W_putMethod 0 (by decide +kernel) n e h; omega, zall_ok zT_W_putMethod (by decide +kernel)⟩
set_option maxRecDepth 100000 in
set_option maxHeartbeats 4000000 in
theorem zmo_W_drop : zmok zMs zI_W_drop := ⟨by decide +kernel, ⟨by decide +kernel, by decide +kernel⟩, zwd_ok (a := 3) (b := 19) (by decide +kernel), zwd_ok (a := 1) (b := 3) (by decide +kernel), by decide +kernel, by rw [if_neg (by decide)]; exact ⟨zwd_ok (a := 3) (b := 17) (by decide +kernel), zwd_ok (a := 3) (b := 18) (by decide +kernel)⟩, rfl, by decide +kernel, rfl, fun n e h => by have := zcuts_ok zT_W_drop 0 (by decide +kernel) n e h; omega, zall_ok zT_W_drop (by decide +kernel)⟩
set_option maxRecDepth 100000 in
set_option maxHeartbeats 4000000 in
theorem zmo_W_placeFrom : zmok zMs zI_W_placeFrom := ⟨by decide +kernel, ⟨by decide +kernel, by decide +kernel⟩, zwd_ok (a := 3) (b := 139) (by decide +kernel), zwd_ok (a := 1) (b := 3) (by decide +kernel), by decide +kernel, by rw [if_neg (by decide)]; exact ⟨zwd_ok (a := 3) (b := 137) (by decide +kernel), zwd_ok (a := 3) (b := 138) (by decide +kernel)⟩, rfl, by decide +kernel, rfl, fun n e h => by have := zcuts_ok zT_W_placeFrom 0 (by decide +kernel) n e h; omega, zall_ok zT_W_placeFrom (by decide +kernel)⟩
set_option maxRecDepth 100000 in
set_option maxHeartbeats 4000000 in
theorem zmo_W_foundIn : zmok zMs zI_W_foundIn := ⟨by decide +kernel, ⟨by decide +kernel, by decide +kernel⟩, zwd_ok (a := 3) (b := 135) (by decide +kernel), zwd_ok (a := 1) (b := 3) (by decide +kernel), by decide +kernel, by rw [if_neg (by decide)]; exact ⟨zwd_ok (a := 3) (b := 133) (by decide +kernel), zwd_ok (a := 3) (b := 134) (by decide +kernel)⟩, rfl, by decide +kernel, rfl, fun n e h => by have := zcuts_ok zT_W_foundIn 0 (by decide +kernel) n e h; omega, zall_ok zT_W_foundIn (by decide +kernel)⟩
set_option maxRecDepth 100000 in
set_option maxHeartbeats 4000000 in
theorem zmo_W_ownSlots : zmok zMs zI_W_ownSlots := ⟨by decide +kernel, ⟨by decide +kernel, by decide +kernel⟩, zwd_ok (a := 2) (b := 152) (by decide +kernel), zwd_ok (a := 1) (b := 3) (by decide +kernel), by decide +kernel, by rw [if_neg (by decide)]; exact ⟨zwd_ok (a := 2) (b := 150) (by decide +kernel), zwd_ok (a := 2) (b := 151) (by decide +kernel)⟩, rfl, by decide +kernel, rfl, fun n e h => by have := zcuts_ok zT_W_ownSlots 0 (by decide +kernel) n e h; omega, zall_ok zT_W_ownSlots (by decide +kernel)⟩
set_option maxRecDepth 100000 in
set_option maxHeartbeats 4000000 in
theorem zmo_W_foundSlots : zmok zMs zI_W_foundSlots := ⟨by decide +kernel, ⟨by decide +kernel, by decide +kernel⟩, zwd_ok (a := 3) (b := 104) (by decide +kernel), zwd_ok (a := 1) (b := 3) (by decide +kernel), by decide +kernel, by rw [if_neg (by decide)]; exact ⟨zwd_ok (a := 3) (b := 102) (by decide +kernel), zwd_ok (a := 3) (b := 103) (by decide +kernel)⟩, rfl, by decide +kernel, rfl, fun n e h => by have := zcuts_ok zT_W_foundSlots 0 (by decide +kernel) n e h; omega, zall_ok zT_W_foundSlots (by decide +kernel)⟩
set_option maxRecDepth 100000 in
set_option maxHeartbeats 4000000 in
theorem zmo_W_hiddenSlots : zmok zMs zI_W_hiddenSlots := ⟨by decide +kernel, ⟨by decide +kernel, by decide +kernel⟩, zwd_ok (a := 3) (b := 147) (by decide +kernel), zwd_ok (a := 1) (b := 3) (by decide +kernel), by decide +kernel, by rw [if_neg (by decide)]; exact ⟨zwd_ok (a := 3) (b := 145) (by decide +kernel), zwd_ok (a := 3) (b := 146) (by decide +kernel)⟩, rfl, by decide +kernel, rfl, fun n e h => by have := zcuts_ok zT_W_hiddenSlots 0 (by decide +kernel) n e h; omega, zall_ok zT_W_hiddenSlots (by decide +kernel)⟩
set_option maxRecDepth 100000 in
set_option maxHeartbeats 4000000 in
theorem zmo_W_family : zmok zMs zI_W_family := ⟨by decide +kernel, ⟨by decide +kernel, by decide +kernel⟩, zwd_ok (a := 3) (b := 113) (by decide +kernel), zwd_ok (a := 1) (b := 3) (by decide +kernel), by decide +kernel, by rw [if_neg (by decide)]; exact ⟨zwd_ok (a := 3) (b := 111) (by decide +kernel), zwd_ok (a := 3) (b := 112) (by decide +kernel)⟩, rfl, by decide +kernel, rfl, fun n e h => by have := zcuts_ok zT_W_family 0 (by decide +kernel) n e h; omega, zall_ok zT_W_family (by decide +kernel)⟩
set_option maxRecDepth 100000 in
set_option maxHeartbeats 4000000 in
theorem zmo_W_slotsOfAll : zmok zMs zI_W_slotsOfAll := ⟨by decide +kernel, ⟨by decide +kernel, by decide +kernel⟩, zwd_ok (a := 4) (b := 101) (by decide +kernel), zwd_ok (a := 1) (b := 3) (by decide +kernel), by decide +kernel, by rw [if_neg (by decide)]; exact ⟨zwd_ok (a := 4) (b := 99) (by decide +kernel), zwd_ok (a := 4) (b := 100) (by decide +kernel)⟩, rfl, by decide +kernel, rfl, fun n e h => by have := zcuts_ok zT_W_slotsOfAll 0 (by decide +kernel) n e h; omega, zall_ok zT_W_slotsOfAll (by decide +kernel)⟩
set_option maxRecDepth 100000 in
set_option maxHeartbeats 4000000 in
theorem zmo_W_methodsOfAll : zmok zMs zI_W_methodsOfAll := ⟨by decide +kernel, ⟨by decide +kernel, by decide +kernel⟩, zwd_ok (a := 4) (b := 130) (by decide +kernel), zwd_ok (a := 1) (b := 3) (by decide +kernel), by decide +kernel, by rw [if_neg (by decide)]; exact ⟨zwd_ok (a := 4) (b := 128) (by decide +kernel), zwd_ok (a := 4) (b := 129) (by decide +kernel)⟩, rfl, by decide +kernel, rfl, fun n e h => by have := zcuts_ok zT_W_methodsOfAll 0 (by decide +kernel) n e h; omega, zall_ok zT_W_methodsOfAll (by decide +kernel)⟩
set_option maxRecDepth 100000 in
set_option maxHeartbeats 4000000 in
theorem zmo_W_draw : zmok zMs zI_W_draw := ⟨by decide +kernel, ⟨by decide +kernel, by decide +kernel⟩, zwd_ok (a := 4) (b := 96) (by decide +kernel), zwd_ok (a := 1) (b := 3) (by decide +kernel), by decide +kernel, by rw [if_neg (by decide)]; exact ⟨zwd_ok (a := 4) (b := 94) (by decide +kernel), zwd_ok (a := 4) (b := 95) (by decide +kernel)⟩, rfl, by decide +kernel, rfl, fun n e h => by have := zcuts_ok zT_W_draw 0 (by decide +kernel) n e h; omega, zall_ok zT_W_draw (by decide +kernel)⟩
set_option maxRecDepth 100000 in
set_option maxHeartbeats 4000000 in
theorem zmo_W_takeFrom : zmok zMs zI_W_takeFrom := ⟨by decide +kernel, ⟨by decide +kernel, by decide +kernel⟩, zwd_ok (a := 4) (b := 114) (by decide +kernel), zwd_ok (a := 1) (b := 3) (by decide +kernel), by decide +kernel, by rw [if_neg (by decide)]; exact ⟨zwd_ok (a := 4) (b := 112) (by decide +kernel), zwd_ok (a := 4) (b := 113) (by decide +kernel)⟩, rfl, by decide +kernel, rfl, fun n e h => by have := zcuts_ok zT_W_takeFrom 0 (by decide +kernel) n e h; omega, zall_ok zT_W_takeFrom (by decide +kernel)⟩
set_option maxRecDepth 100000 in
set_option maxHeartbeats 4000000 in
theorem zmo_X_row : zmok zMs zI_X_row := ⟨by decide +kernel, ⟨by decide +kernel, by decide +kernel⟩, zwd_ok (a := 2) (b := 53) (by decide +kernel), zwd_ok (a := 1) (b := 1) (by decide +kernel), by decide +kernel, by rw [if_neg (by decide)]; exact ⟨zwd_ok (a := 2) (b := 51) (by decide +kernel), zwd_ok (a := 2) (b := 52) (by decide +kernel)⟩, rfl, by decide +kernel, rfl, fun n e h => by have := zcuts_ok zT_X_row 0 (by decide +kernel) n e h; omega, zall_ok zT_X_row (by decide +kernel)⟩
set_option maxRecDepth 100000 in
set_option maxHeartbeats 4000000 in
theorem zmo_X_set : zmok zMs zI_X_set := ⟨by decide +kernel, ⟨by decide +kernel, by decide +kernel⟩, zwd_ok (a := 2) (b := 75) (by decide +kernel), zwd_ok (a := 1) (b := 1) (by decide +kernel), by decide +kernel, by rw [if_neg (by decide)]; exact ⟨zwd_ok (a := 2) (b := 73) (by decide +kernel), zwd_ok (a := 2) (b := 74) (by decide +kernel)⟩, rfl, by decide +kernel, rfl, fun n e h => by have := zcuts_ok zT_X_set 0 (by decide +kernel) n e h; omega, zall_ok zT_X_set (by decide +kernel)⟩
set_option maxRecDepth 100000 in
set_option maxHeartbeats 4000000 in
theorem zmo_X_copy : zmok zMs zI_X_copy := ⟨by decide +kernel, ⟨by decide +kernel, by decide +kernel⟩, zwd_ok (a := 2) (b := 100) (by decide +kernel), zwd_ok (a := 1) (b := 1) (by decide +kernel), by decide +kernel, by rw [if_neg (by decide)]; exact ⟨zwd_ok (a := 2) (b := 98) (by decide +kernel), zwd_ok (a := 2) (b := 99) (by decide +kernel)⟩, rfl, by decide +kernel, rfl, fun n e h => by have := zcuts_ok zT_X_copy 0 (by decide +kernel) n e h; omega, zall_ok zT_X_copy (by decide +kernel)⟩
set_option maxRecDepth 100000 in
set_option maxHeartbeats 4000000 in
theorem zmo_X_element : zmok zMs zI_X_element := ⟨by decide +kernel, ⟨by decide +kernel, by decide +kernel⟩, zwd_ok (a := 2) (b := 121) (by decide +kernel), zwd_ok (a := 1) (b := 1) (by decide +kernel), by decide +kernel, by rw [if_neg (by decide)]; exact ⟨zwd_ok (a := 2) (b := 119) (by decide +kernel), zwd_ok (a := 2) (b := 120) (by decide +kernel)⟩, rfl, by decide +kernel, rfl, fun n e h => by have := zcuts_ok zT_X_element 0 (by decide +kernel) n e h; omega, zall_ok zT_X_element (by decide +kernel)⟩
set_option maxRecDepth 100000 in
set_option maxHeartbeats 4000000 in
theorem zmo_X_show : zmok zMs zI_X_show := ⟨by decide +kernel, ⟨by decide +kernel, by decide +kernel⟩, zwd_ok (a := 2) (b := 129) (by decide +kernel), zwd_ok (a := 1) (b := 1) (by decide +kernel), by decide +kernel, by rw [if_neg (by decide)]; exact ⟨zwd_ok (a := 2) (b := 127) (by decide +kernel), zwd_ok (a := 2) (b := 128) (by decide +kernel)⟩, rfl, by decide +kernel, rfl, fun n e h => by have := zcuts_ok zT_X_show 0 (by decide +kernel) n e h; omega, zall_ok zT_X_show (by decide +kernel)⟩
set_option maxRecDepth 100000 in
set_option maxHeartbeats 4000000 in
theorem zmo_X_holds : zmok zMs zI_X_holds := ⟨by decide +kernel, ⟨by decide +kernel, by decide +kernel⟩, zwd_ok (a := 2) (b := 137) (by decide +kernel), zwd_ok (a := 1) (b := 1) (by decide +kernel), by decide +kernel, by rw [if_neg (by decide)]; exact ⟨zwd_ok (a := 2) (b := 135) (by decide +kernel), zwd_ok (a := 2) (b := 136) (by decide +kernel)⟩, rfl, by decide +kernel, rfl, fun n e h => by have := zcuts_ok zT_X_holds 0 (by decide +kernel) n e h; omega, zall_ok zT_X_holds (by decide +kernel)⟩
set_option maxRecDepth 100000 in
set_option maxHeartbeats 4000000 in
theorem zmo_X_says : zmok zMs zI_X_says := ⟨by decide +kernel, ⟨by decide +kernel, by decide +kernel⟩, zwd_ok (a := 2) (b := 141) (by decide +kernel), zwd_ok (a := 1) (b := 1) (by decide +kernel), by decide +kernel, by rw [if_neg (by decide)]; exact ⟨zwd_ok (a := 2) (b := 139) (by decide +kernel), zwd_ok (a := 2) (b := 140) (by decide +kernel)⟩, rfl, by decide +kernel, rfl, fun n e h => by have := zcuts_ok zT_X_says 0 (by decide +kernel) n e h; omega, zall_ok zT_X_says (by decide +kernel)⟩
set_option maxRecDepth 100000 in
set_option maxHeartbeats 4000000 in
theorem zmo_X_read : zmok zMs zI_X_read := ⟨by decide +kernel, ⟨by decide +kernel, by decide +kernel⟩, zwd_ok (a := 2) (b := 166) (by decide +kernel), zwd_ok (a := 1) (b := 1) (by decide +kernel), by decide +kernel, by rw [if_neg (by decide)]; exact ⟨zwd_ok (a := 2) (b := 164) (by decide +kernel), zwd_ok (a := 2) (b := 165) (by decide +kernel)⟩, rfl, by decide +kernel, rfl, fun n e h => by have := zcuts_ok zT_X_read 0 (by decide +kernel) n e h; omega, zall_ok zT_X_read (by decide +kernel)⟩
set_option maxRecDepth 100000 in
set_option maxHeartbeats 4000000 in
theorem zmo_X_fault : zmok zMs zI_X_fault := ⟨by decide +kernel, ⟨by decide +kernel, by decide +kernel⟩, zwd_ok (a := 3) (b := 43) (by decide +kernel), zwd_ok (a := 1) (b := 1) (by decide +kernel), by decide +kernel, by rw [if_neg (by decide)]; exact ⟨zwd_ok (a := 3) (b := 41) (by decide +kernel), zwd_ok (a := 3) (b := 42) (by decide +kernel)⟩, rfl, by decide +kernel, rfl, fun n e h => by have := zcuts_ok zT_X_fault 0 (by decide +kernel) n e h; omega, zall_ok zT_X_fault (by decide +kernel)⟩
set_option maxRecDepth 100000 in
set_option maxHeartbeats 4000000 in
theorem zmo_X_make : zmok zMs zI_X_make := ⟨by decide +kernel, ⟨by decide +kernel, by decide +kernel⟩, zwd_ok (a := 3) (b := 47) (by decide +kernel), zwd_ok (a := 1) (b := 1) (by decide +kernel), by decide +kernel, by rw [if_neg (by decide)]; exact ⟨zwd_ok (a := 3) (b := 45) (by decide +kernel), zwd_ok (a := 3) (b := 46) (by decide +kernel)⟩, rfl, by decide +kernel, rfl, fun n e h => by have := zcuts_ok zT_X_make 0 (by decide +kernel) n e h; omega, zall_ok zT_X_make (by decide +kernel)⟩
set_option maxRecDepth 100000 in
set_option maxHeartbeats 4000000 in
theorem zmo_X_wouldBe : zmok zMs zI_X_wouldBe := ⟨by decide +kernel, ⟨by decide +kernel, by decide +kernel⟩, zwd_ok (a := 3) (b := 66) (by decide +kernel), zwd_ok (a := 1) (b := 1) (by decide +kernel), by decide +kernel, by rw [if_neg (by decide)]; exact ⟨zwd_ok (a := 3) (b := 64) (by decide +kernel), zwd_ok (a := 3) (b := 65) (by decide +kernel)⟩, rfl, by decide +kernel, rfl, fun n e h => by have := zcuts_ok zT_X_wouldBe 0 (by decide +kernel) n e h; omega, zall_ok zT_X_wouldBe (by decide +kernel)⟩
set_option maxRecDepth 100000 in
set_option maxHeartbeats 4000000 in
theorem zmo_X_value : zmok zMs zI_X_value := ⟨by decide +kernel, ⟨by decide +kernel, by decide +kernel⟩, zwd_ok (a := 3) (b := 74) (by decide +kernel), zwd_ok (a := 1) (b := 1) (by decide +kernel), by decide +kernel, by rw [if_neg (by decide)]; exact ⟨zwd_ok (a := 3) (b := 72) (by decide +kernel), zwd_ok (a := 3) (b := 73) (by decide +kernel)⟩, rfl, by decide +kernel, rfl, fun n e h => by have := zcuts_ok zT_X_value 0 (by decide +kernel) n e h; omega, zall_ok zT_X_value (by decide +kernel)⟩
set_option maxRecDepth 100000 in
set_option maxHeartbeats 4000000 in
theorem zmo_X_method : zmok zMs zI_X_method := ⟨by decide +kernel, ⟨by decide +kernel, by decide +kernel⟩, zwd_ok (a := 3) (b := 83) (by decide +kernel), zwd_ok (a := 1) (b := 1) (by decide +kernel), by decide +kernel, by rw [if_neg (by decide)]; exact ⟨zwd_ok (a := 3) (b := 81) (by decide +kernel), zwd_ok (a := 3) (b := 82) (by decide +kernel)⟩, rfl, by decide +kernel, rfl, fun n e h => by have := zcuts_ok zT_X_method 0 (by decide +kernel) n e h; omega, zall_ok zT_X_method (by decide +kernel)⟩
set_option maxRecDepth 100000 in
set_option maxHeartbeats 4000000 in
theorem zmo_X_remove : zmok zMs zI_X_remove := ⟨by decide +kernel, ⟨by decide +kernel, by decide +kernel⟩, zwd_ok (a := 3) (b := 91) (by decide +kernel), zwd_ok (a := 1) (b := 1) (by decide +kernel), by decide +kernel, by rw [if_neg (by decide)]; exact ⟨zwd_ok (a := 3) (b := 89) (by decide +kernel), zwd_ok (a := 3) (b := 90) (by decide +kernel)⟩, rfl, by decide +kernel, rfl, fun n e h => by have := zcuts_ok zT_X_remove 0 (by decide +kernel) n e h; omega, zall_ok zT_X_remove (by decide +kernel)⟩
set_option maxRecDepth 100000 in
set_option maxHeartbeats 4000000 in
theorem zmo_X_objectOf : zmok zMs zI_X_objectOf := ⟨by decide +kernel, ⟨by decide +kernel, by decide +kernel⟩, zwd_ok (a := 3) (b := 96) (by decide +kernel), zwd_ok (a := 1) (b := 1) (by decide +kernel), by decide +kernel, by rw [if_neg (by decide)]; exact ⟨zwd_ok (a := 3) (b := 94) (by decide +kernel), zwd_ok (a := 3) (b := 95) (by decide +kernel)⟩, rfl, by decide +kernel, rfl, fun n e h => by have := zcuts_ok zT_X_objectOf 0 (by decide +kernel) n e h; omega, zall_ok zT_X_objectOf (by decide +kernel)⟩
set_option maxRecDepth 100000 in
set_option maxHeartbeats 4000000 in
theorem zmo_X_order : zmok zMs zI_X_order := ⟨by decide +kernel, ⟨by decide +kernel, by decide +kernel⟩, zwd_ok (a := 3) (b := 121) (by decide +kernel), zwd_ok (a := 1) (b := 1) (by decide +kernel), by decide +kernel, by rw [if_neg (by decide)]; exact ⟨zwd_ok (a := 3) (b := 119) (by decide +kernel), zwd_ok (a := 3) (b := 120) (by decide +kernel)⟩, rfl, by decide +kernel, rfl, fun n e h => by have := zcuts_ok zT_X_order 0 (by decide +kernel) n e h; omega, zall_ok zT_X_order (by decide +kernel)⟩
set_option maxRecDepth 100000 in
set_option maxHeartbeats 4000000 in
theorem zmo_X_distance : zmok zMs zI_X_distance := ⟨by decide +kernel, ⟨by decide +kernel, by decide +kernel⟩, zwd_ok (a := 3) (b := 126) (by decide +kernel), zwd_ok (a := 1) (b := 1) (by decide +kernel), by decide +kernel, by rw [if_neg (by decide)]; exact ⟨zwd_ok (a := 3) (b := 124) (by decide +kernel), zwd_ok (a := 3) (b := 125) (by decide +kernel)⟩, rfl, by decide +kernel, rfl, fun n e h => by have := zcuts_ok zT_X_distance 0 (by decide +kernel) n e h; omega, zall_ok zT_X_distance (by decide +kernel)⟩
set_option maxRecDepth 100000 in
set_option maxHeartbeats 4000000 in
theorem zmo_X_where : zmok zMs zI_X_where := ⟨by decide +kernel, ⟨by decide +kernel, by decide +kernel⟩, zwd_ok (a := 3) (b := 131) (by decide +kernel), zwd_ok (a := 1) (b := 1) (by decide +kernel), by decide +kernel, by rw [if_neg (by decide)]; exact ⟨zwd_ok (a := 3) (b := 129) (by decide +kernel), zwd_ok (a := 3) (b := 130) (by decide +kernel)⟩, rfl, by decide +kernel, rfl, fun n e h => by have := zcuts_ok zT_X_where 0 (by decide +kernel) n e h; omega, zall_ok zT_X_where (by decide +kernel)⟩
set_option maxRecDepth 100000 in
set_option maxHeartbeats 4000000 in
theorem zmo_X_hidden : zmok zMs zI_X_hidden := ⟨by decide +kernel, ⟨by decide +kernel, by decide +kernel⟩, zwd_ok (a := 3) (b := 143) (by decide +kernel), zwd_ok (a := 1) (b := 1) (by decide +kernel), by decide +kernel, by rw [if_neg (by decide)]; exact ⟨zwd_ok (a := 3) (b := 141) (by decide +kernel), zwd_ok (a := 3) (b := 142) (by decide +kernel)⟩, rfl, by decide +kernel, rfl, fun n e h => by have := zcuts_ok zT_X_hidden 0 (by decide +kernel) n e h; omega, zall_ok zT_X_hidden (by decide +kernel)⟩
set_option maxRecDepth 100000 in
set_option maxHeartbeats 4000000 in
theorem zmo_X_slotOf : zmok zMs zI_X_slotOf := ⟨by decide +kernel, ⟨by decide +kernel, by decide +kernel⟩, zwd_ok (a := 3) (b := 152) (by decide +kernel), zwd_ok (a := 1) (b := 1) (by decide +kernel), by decide +kernel, by rw [if_neg (by decide)]; exact ⟨zwd_ok (a := 3) (b := 150) (by decide +kernel), zwd_ok (a := 3) (b := 151) (by decide +kernel)⟩, rfl, by decide +kernel, rfl, fun n e h => by have := zcuts_ok zT_X_slotOf 0 (by decide +kernel) n e h; omega, zall_ok zT_X_slotOf (by decide +kernel)⟩
set_option maxRecDepth 100000 in
set_option maxHeartbeats 4000000 in
theorem zmo_X_send : zmok zMs zI_X_send := ⟨by decide +kernel, ⟨by decide +kernel, by decide +kernel⟩, zwd_ok (a := 3) (b := 156) (by decide +kernel), zwd_ok (a := 1) (b := 1) (by decide +kernel), by decide +kernel, by rw [if_neg (by decide)]; exact ⟨zwd_ok (a := 3) (b := 154) (by decide +kernel), zwd_ok (a := 3) (b := 155) (by decide +kernel)⟩, rfl, by decide +kernel, rfl, fun n e h => by have := zcuts_ok zT_X_send 0 (by decide +kernel) n e h; omega, zall_ok zT_X_send (by decide +kernel)⟩
set_option maxRecDepth 100000 in
set_option maxHeartbeats 4000000 in
theorem zmo_X_given : zmok zMs zI_X_given := ⟨by decide +kernel, ⟨by decide +kernel, by decide +kernel⟩, zwd_ok (a := 4) (b := 8) (by decide +kernel), zwd_ok (a := 1) (b := 1) (by decide +kernel), by decide +kernel, by rw [if_neg (by decide)]; exact ⟨zwd_ok (a := 4) (b := 6) (by decide +kernel), zwd_ok (a := 4) (b := 7) (by decide +kernel)⟩, rfl, by decide +kernel, rfl, fun n e h => by have := zcuts_ok zT_X_given 0 (by decide +kernel) n e h; omega, zall_ok zT_X_given (by decide +kernel)⟩
set_option maxRecDepth 100000 in
set_option maxHeartbeats 4000000 in
theorem zmo_X_trial : zmok zMs zI_X_trial := ⟨by decide +kernel, ⟨by decide +kernel, by decide +kernel⟩, zwd_ok (a := 4) (b := 12) (by decide +kernel), zwd_ok (a := 1) (b := 1) (by decide +kernel), by decide +kernel, by rw [if_neg (by decide)]; exact ⟨zwd_ok (a := 4) (b := 10) (by decide +kernel), zwd_ok (a := 4) (b := 11) (by decide +kernel)⟩, rfl, by decide +kernel, rfl, fun n e h => by have := zcuts_ok zT_X_trial 0 (by decide +kernel) n e h; omega, zall_ok zT_X_trial (by decide +kernel)⟩
set_option maxRecDepth 100000 in
set_option maxHeartbeats 4000000 in
theorem zmo_X_way : zmok zMs zI_X_way := ⟨by decide +kernel, ⟨by decide +kernel, by decide +kernel⟩, zwd_ok (a := 4) (b := 17) (by decide +kernel), zwd_ok (a := 1) (b := 1) (by decide +kernel), by decide +kernel, by rw [if_neg (by decide)]; exact ⟨zwd_ok (a := 4) (b := 15) (by decide +kernel), zwd_ok (a := 4) (b := 16) (by decide +kernel)⟩, rfl, by decide +kernel, rfl, fun n e h => by have := zcuts_ok zT_X_way 0 (by decide +kernel) n e h; omega, zall_ok zT_X_way (by decide +kernel)⟩
set_option maxRecDepth 100000 in
set_option maxHeartbeats 4000000 in
theorem zmo_X_wayOf : zmok zMs zI_X_wayOf := ⟨by decide +kernel, ⟨by decide +kernel, by decide +kernel⟩, zwd_ok (a := 4) (b := 35) (by decide +kernel), zwd_ok (a := 1) (b := 1) (by decide +kernel), by decide +kernel, by rw [if_neg (by decide)]; exact ⟨zwd_ok (a := 4) (b := 33) (by decide +kernel), zwd_ok (a := 4) (b := 34) (by decide +kernel)⟩, rfl, by decide +kernel, rfl, fun n e h => by have := zcuts_ok zT_X_wayOf 0 (by decide +kernel) n e h; omega, zall_ok zT_X_wayOf (by decide +kernel)⟩
set_option maxRecDepth 100000 in
set_option maxHeartbeats 4000000 in
theorem zmo_X_applies : zmok zMs zI_X_applies := ⟨by decide +kernel, ⟨by decide +kernel, by decide +kernel⟩, zwd_ok (a := 4) (b := 40) (by decide +kernel), zwd_ok (a := 1) (b := 1) (by decide +kernel), by decide +kernel, by rw [if_neg (by decide)]; exact ⟨zwd_ok (a := 4) (b := 38) (by decide +kernel), zwd_ok (a := 4) (b := 39) (by decide +kernel)⟩, rfl, by decide +kernel, rfl, fun n e h => by have := zcuts_ok zT_X_applies 0 (by decide +kernel) n e h; omega, zall_ok zT_X_applies (by decide +kernel)⟩
set_option maxRecDepth 100000 in
set_option maxHeartbeats 4000000 in
theorem zmo_X_tie : zmok zMs zI_X_tie := ⟨by decide +kernel, ⟨by decide +kernel, by decide +kernel⟩, zwd_ok (a := 4) (b := 60) (by decide +kernel), zwd_ok (a := 1) (b := 1) (by decide +kernel), by decide +kernel, by rw [if_neg (by decide)]; exact ⟨zwd_ok (a := 4) (b := 58) (by decide +kernel), zwd_ok (a := 4) (b := 59) (by decide +kernel)⟩, rfl, by decide +kernel, rfl, fun n e h => by have := zcuts_ok zT_X_tie 0 (by decide +kernel) n e h; omega, zall_ok zT_X_tie (by decide +kernel)⟩
set_option maxRecDepth 100000 in
set_option maxHeartbeats 4000000 in
theorem zmo_X_call : zmok zMs zI_X_call := ⟨by decide +kernel, ⟨by decide +kernel, by decide +kernel⟩, zwd_ok (a := 4) (b := 69) (by decide +kernel), zwd_ok (a := 1) (b := 1) (by decide +kernel), by decide +kernel, by rw [if_neg (by decide)]; exact ⟨zwd_ok (a := 4) (b := 67) (by decide +kernel), zwd_ok (a := 4) (b := 68) (by decide +kernel)⟩, rfl, by decide +kernel, rfl, fun n e h => by have := zcuts_ok zT_X_call 0 (by decide +kernel) n e h; omega, zall_ok zT_X_call (by decide +kernel)⟩
set_option maxRecDepth 100000 in
set_option maxHeartbeats 4000000 in
theorem zmo_X_trace : zmok zMs zI_X_trace := ⟨by decide +kernel, ⟨by decide +kernel, by decide +kernel⟩, zwd_ok (a := 4) (b := 78) (by decide +kernel), zwd_ok (a := 1) (b := 1) (by decide +kernel), by decide +kernel, by rw [if_neg (by decide)]; exact ⟨zwd_ok (a := 4) (b := 76) (by decide +kernel), zwd_ok (a := 4) (b := 77) (by decide +kernel)⟩, rfl, by decide +kernel, rfl, fun n e h => by have := zcuts_ok zT_X_trace 0 (by decide +kernel) n e h; omega, zall_ok zT_X_trace (by decide +kernel)⟩
set_option maxRecDepth 100000 in
set_option maxHeartbeats 4000000 in
theorem zmo_X_judge : zmok zMs zI_X_judge := ⟨by decide +kernel, ⟨by decide +kernel, by decide +kernel⟩, zwd_ok (a := 4) (b := 82) (by decide +kernel), zwd_ok (a := 1) (b := 1) (by decide +kernel), by decide +kernel, by rw [if_neg (by decide)]; exact ⟨zwd_ok (a := 4) (b := 80) (by decide +kernel), zwd_ok (a := 4) (b := 81) (by decide +kernel)⟩, rfl, by decide +kernel, rfl, fun n e h => by have := zcuts_ok zT_X_judge 0 (by decide +kernel) n e h; omega, zall_ok zT_X_judge (by decide +kernel)⟩
set_option maxRecDepth 100000 in
set_option maxHeartbeats 4000000 in
theorem zmo_X_days : zmok zMs zI_X_days := ⟨by decide +kernel, ⟨by decide +kernel, by decide +kernel⟩, zwd_ok (a := 4) (b := 88) (by decide +kernel), zwd_ok (a := 1) (b := 1) (by decide +kernel), by decide +kernel, by rw [if_neg (by decide)]; exact ⟨zwd_ok (a := 4) (b := 86) (by decide +kernel), zwd_ok (a := 4) (b := 87) (by decide +kernel)⟩, rfl, by decide +kernel, rfl, fun n e h => by have := zcuts_ok zT_X_days 0 (by decide +kernel) n e h; omega, zall_ok zT_X_days (by decide +kernel)⟩
set_option maxRecDepth 100000 in
set_option maxHeartbeats 4000000 in
theorem zmo_X_seed : zmok zMs zI_X_seed := ⟨by decide +kernel, ⟨by decide +kernel, by decide +kernel⟩, zwd_ok (a := 4) (b := 106) (by decide +kernel), zwd_ok (a := 1) (b := 1) (by decide +kernel), by decide +kernel, by rw [if_neg (by decide)]; exact ⟨zwd_ok (a := 4) (b := 104) (by decide +kernel), zwd_ok (a := 4) (b := 105) (by decide +kernel)⟩, rfl, by decide +kernel, rfl, fun n e h => by have := zcuts_ok zT_X_seed 0 (by decide +kernel) n e h; omega, zall_ok zT_X_seed (by decide +kernel)⟩
set_option maxRecDepth 100000 in
set_option maxHeartbeats 4000000 in
theorem zmo_X_image : zmok zMs zI_X_image := ⟨by decide +kernel, ⟨by decide +kernel, by decide +kernel⟩, zwd_ok (a := 4) (b := 110) (by decide +kernel), zwd_ok (a := 1) (b := 1) (by decide +kernel), by decide +kernel, by rw [if_neg (by decide)]; exact ⟨zwd_ok (a := 4) (b := 108) (by decide +kernel), zwd_ok (a := 4) (b := 109) (by decide +kernel)⟩, rfl, by decide +kernel, rfl, fun n e h => by have := zcuts_ok zT_X_image 0 (by decide +kernel) n e h; omega, zall_ok zT_X_image (by decide +kernel)⟩
set_option maxRecDepth 100000 in
set_option maxHeartbeats 4000000 in
theorem zmo_X_restore : zmok zMs zI_X_restore := ⟨by decide +kernel, ⟨by decide +kernel, by decide +kernel⟩, zwd_ok (a := 4) (b := 118) (by decide +kernel), zwd_ok (a := 1) (b := 1) (by decide +kernel), by decide +kernel, by rw [if_neg (by decide)]; exact ⟨zwd_ok (a := 4) (b := 116) (by decide +kernel), zwd_ok (a := 4) (b := 117) (by decide +kernel)⟩, rfl, by decide +kernel, rfl, fun n e h => by have := zcuts_ok zT_X_restore 0 (by decide +kernel) n e h; omega, zall_ok zT_X_restore (by decide +kernel)⟩
set_option maxRecDepth 100000 in
set_option maxHeartbeats 4000000 in
theorem zmo_X_status : zmok zMs zI_X_status := ⟨by decide +kernel, ⟨by decide +kernel, by decide +kernel⟩, zwd_ok (a := 4) (b := 126) (by decide +kernel), zwd_ok (a := 1) (b := 1) (by decide +kernel), by decide +kernel, by rw [if_neg (by decide)]; exact ⟨zwd_ok (a := 4) (b := 124) (by decide +kernel), zwd_ok (a := 4) (b := 125) (by decide +kernel)⟩, rfl, by decide +kernel, rfl, fun n e h => by have := zcuts_ok zT_X_status 0 (by decide +kernel) n e h; omega, zall_ok zT_X_status (by decide +kernel)⟩
set_option maxRecDepth 100000 in
set_option maxHeartbeats 4000000 in
theorem zmo_X_refuse : zmok zMs zI_X_refuse := ⟨by decide +kernel, ⟨by decide +kernel, by decide +kernel⟩, zwd_ok (a := 2) (b := 61) (by decide +kernel), zwd_ok (a := 1) (b := 1) (by decide +kernel), by decide +kernel, by rw [if_neg (by decide)]; exact ⟨zwd_ok (a := 2) (b := 60) (by decide +kernel), List.mem_filter.mpr ⟨List.mem_append_left _ (List.mem_of_getElem? (i := 0) (by decide +kernel)), by decide +kernel⟩⟩, rfl, by decide +kernel, rfl, fun n e h => by have := zcuts_ok zT_X_refuse 0 (by decide +kernel) n e h; omega, zall_ok zT_X_refuse (by decide +kernel)⟩
set_option maxRecDepth 100000 in
set_option maxHeartbeats 4000000 in
theorem zmo_X_refuseByTen : zmok zMs zI_X_refuseByTen := ⟨by decide +kernel, ⟨by decide +kernel, by decide +kernel⟩, zwd_ok (a := 3) (b := 70) (by decide +kernel), zwd_ok (a := 1) (b := 1) (by decide +kernel), by decide +kernel, by rw [if_neg (by decide)]; exact ⟨zwd_ok (a := 3) (b := 69) (by decide +kernel), List.mem_filter.mpr ⟨List.mem_append_left _ (List.mem_of_getElem? (i := 17) (by decide +kernel)), by decide +kernel⟩⟩, rfl, by decide +kernel, rfl, fun n e h => by have := zcuts_ok zT_X_refuseByTen 0 (by decide +kernel) n e h; omega, zall_ok zT_X_refuseByTen (by decide +kernel)⟩
set_option maxRecDepth 100000 in
set_option maxHeartbeats 4000000 in
theorem zmo_X_whyNoParents : zmok zMs zI_X_whyNoParents := ⟨by decide +kernel, ⟨by decide +kernel, by decide +kernel⟩, zwd_ok (a := 3) (b := 51) (by decide +kernel), zwd_ok (a := 1) (b := 1) (by decide +kernel), by decide +kernel, by rw [if_neg (by decide)]; exact ⟨zwd_ok (a := 3) (b := 50) (by decide +kernel), List.mem_filter.mpr ⟨List.mem_append_left _ (List.mem_of_getElem? (i := 16) (by decide +kernel)), by decide +kernel⟩⟩, rfl, by decide +kernel, rfl, fun n e h => by have := zcuts_ok zT_X_whyNoParents 0 (by decide +kernel) n e h; omega, zall_ok zT_X_whyNoParents (by decide +kernel)⟩
set_option maxRecDepth 100000 in
set_option maxHeartbeats 4000000 in
theorem zmo_X_liveDay : zmok zMs zI_X_liveDay := ⟨by decide +kernel, ⟨by decide +kernel, by decide +kernel⟩, zwd_ok (a := 4) (b := 92) (by decide +kernel), zwd_ok (a := 1) (b := 1) (by decide +kernel), by decide +kernel, by rw [if_neg (by decide)]; exact ⟨zwd_ok (a := 4) (b := 91) (by decide +kernel), List.mem_filter.mpr ⟨List.mem_append_left _ (List.mem_of_getElem? (i := 35) (by decide +kernel)), by decide +kernel⟩⟩, rfl, by decide +kernel, rfl, fun n e h => by have := zcuts_ok zT_X_liveDay 0 (by decide +kernel) n e h; omega, zall_ok zT_X_liveDay (by decide +kernel)⟩
set_option maxRecDepth 100000 in
set_option maxHeartbeats 4000000 in
theorem zmo_X_isKind : zmok zMs zI_X_isKind := ⟨by decide +kernel, ⟨by decide +kernel, by decide +kernel⟩, zwd_ok (a := 2) (b := 144) (by decide +kernel), zwd_ok (a := 1) (b := 1) (by decide +kernel), by decide +kernel, by rw [if_pos (show zI_X_isKind.2.2.2.2.2.1 = true from rfl)]; exact zwd_ok (a := 2) (b := 143) (by decide +kernel), rfl, by decide +kernel, rfl, fun n e h => by have := zcuts_ok zT_X_isKind 0 (by decide +kernel) n e h; omega, zall_ok zT_X_isKind (by decide +kernel)⟩
set_option maxRecDepth 100000 in
set_option maxHeartbeats 4000000 in
theorem zmo_X_isSlot : zmok zMs zI_X_isSlot := ⟨by decide +kernel, ⟨by decide +kernel, by decide +kernel⟩, zwd_ok (a := 3) (b := 77) (by decide +kernel), zwd_ok (a := 1) (b := 1) (by decide +kernel), by decide +kernel, by rw [if_pos (show zI_X_isSlot.2.2.2.2.2.1 = true from rfl)]; exact zwd_ok (a := 3) (b := 76) (by decide +kernel), rfl, by decide +kernel, rfl, fun n e h => by have := zcuts_ok zT_X_isSlot 0 (by decide +kernel) n e h; omega, zall_ok zT_X_isSlot (by decide +kernel)⟩
set_option maxRecDepth 100000 in
set_option maxHeartbeats 4000000 in
theorem zmo_X_isGeneric : zmok zMs zI_X_isGeneric := ⟨by decide +kernel, ⟨by decide +kernel, by decide +kernel⟩, zwd_ok (a := 4) (b := 20) (by decide +kernel), zwd_ok (a := 1) (b := 1) (by decide +kernel), by decide +kernel, by rw [if_pos (show zI_X_isGeneric.2.2.2.2.2.1 = true from rfl)]; exact zwd_ok (a := 4) (b := 19) (by decide +kernel), rfl, by decide +kernel, rfl, fun n e h => by have := zcuts_ok zT_X_isGeneric 0 (by decide +kernel) n e h; omega, zall_ok zT_X_isGeneric (by decide +kernel)⟩
set_option maxRecDepth 100000 in
set_option maxHeartbeats 4000000 in
theorem zmo_X_isSort : zmok zMs zI_X_isSort := ⟨by decide +kernel, ⟨by decide +kernel, by decide +kernel⟩, zwd_ok (a := 4) (b := 23) (by decide +kernel), zwd_ok (a := 1) (b := 1) (by decide +kernel), by decide +kernel, by rw [if_pos (show zI_X_isSort.2.2.2.2.2.1 = true from rfl)]; exact zwd_ok (a := 4) (b := 22) (by decide +kernel), rfl, by decide +kernel, rfl, fun n e h => by have := zcuts_ok zT_X_isSort 0 (by decide +kernel) n e h; omega, zall_ok zT_X_isSort (by decide +kernel)⟩
set_option maxRecDepth 100000 in
set_option maxHeartbeats 4000000 in
theorem zmo_X_isFunction : zmok zMs zI_X_isFunction := ⟨by decide +kernel, ⟨by decide +kernel, by decide +kernel⟩, zwd_ok (a := 3) (b := 86) (by decide +kernel), zwd_ok (a := 1) (b := 1) (by decide +kernel), by decide +kernel, by rw [if_pos (show zI_X_isFunction.2.2.2.2.2.1 = true from rfl)]; exact zwd_ok (a := 3) (b := 85) (by decide +kernel), rfl, by decide +kernel, rfl, fun n e h => by have := zcuts_ok zT_X_isFunction 0 (by decide +kernel) n e h; omega, zall_ok zT_X_isFunction (by decide +kernel)⟩
set_option maxRecDepth 100000 in
set_option maxHeartbeats 4000000 in
theorem zmo_J_bitCount : zmok zMs zI_J_bitCount := ⟨by decide +kernel, ⟨by decide +kernel, by decide +kernel⟩, zwd_ok (a := 2) (b := 159) (by decide +kernel), zwd_ok (a := 1) (b := 11) (by decide +kernel), by decide +kernel, by rw [if_pos (show zI_J_bitCount.2.2.2.2.2.1 = true from rfl)]; exact zwd_ok (a := 2) (b := 158) (by decide +kernel), rfl, by decide +kernel, rfl, fun n e h => by have := zcuts_ok zT_J_bitCount 0 (by decide +kernel) n e h; omega, zall_ok zT_J_bitCount (by decide +kernel)⟩
set_option maxRecDepth 100000 in
set_option maxHeartbeats 4000000 in
theorem zmo_J_floorMod : zmok zMs zI_J_floorMod := ⟨by decide +kernel, ⟨by decide +kernel, by decide +kernel⟩, zwd_ok (a := 3) (b := 226) (by decide +kernel), zwd_ok (a := 1) (b := 12) (by decide +kernel), by decide +kernel, by rw [if_pos (show zI_J_floorMod.2.2.2.2.2.1 = true from rfl)]; exact zwd_ok (a := 3) (b := 225) (by decide +kernel), rfl, by decide +kernel, rfl, fun n e h => by have := zcuts_ok zT_J_floorMod 0 (by decide +kernel) n e h; omega, zall_ok zT_J_floorMod (by decide +kernel)⟩
set_option maxRecDepth 100000 in
set_option maxHeartbeats 4000000 in
theorem zmo_J_min : zmok zMs zI_J_min := ⟨by decide +kernel, ⟨by decide +kernel, by decide +kernel⟩, zwd_ok (a := 6) (b := 98) (by decide +kernel), zwd_ok (a := 1) (b := 12) (by decide +kernel), by decide +kernel, by rw [if_pos (show zI_J_min.2.2.2.2.2.1 = true from rfl)]; exact zwd_ok (a := 6) (b := 97) (by decide +kernel), rfl, by decide +kernel, rfl, fun n e h => by have := zcuts_ok zT_J_min 0 (by decide +kernel) n e h; omega, zall_ok zT_J_min (by decide +kernel)⟩
set_option maxRecDepth 100000 in
set_option maxHeartbeats 4000000 in
theorem zmo_J_rangeCheck : zmok zMs zI_J_rangeCheck := ⟨by decide +kernel, ⟨by decide +kernel, by decide +kernel⟩, zwd_ok (a := 2) (b := 71) (by decide +kernel), zwd_ok (a := 1) (b := 6) (by decide +kernel), by decide +kernel, by rw [if_pos (show zI_J_rangeCheck.2.2.2.2.2.1 = true from rfl)]; exact zwd_ok (a := 2) (b := 70) (by decide +kernel), rfl, by decide +kernel, rfl, fun n e h => by have := zcuts_ok zT_J_rangeCheck 0 (by decide +kernel) n e h; omega, zall_ok zT_J_rangeCheck (by decide +kernel)⟩
set_option maxRecDepth 100000 in
set_option maxHeartbeats 4000000 in
theorem zmo_J_fill : zmok zMs zI_J_fill := ⟨by decide +kernel, ⟨by decide +kernel, by decide +kernel⟩, zwd_ok (a := 2) (b := 68) (by decide +kernel), zwd_ok (a := 1) (b := 6) (by decide +kernel), by decide +kernel, by rw [if_pos (show zI_J_fill.2.2.2.2.2.1 = true from rfl)]; exact zwd_ok (a := 2) (b := 67) (by decide +kernel), rfl, by decide +kernel, rfl, fun n e h => by have := zcuts_ok zT_J_fill 0 (by decide +kernel) n e h; omega, zall_ok zT_J_fill (by decide +kernel)⟩
set_option maxRecDepth 100000 in
set_option maxHeartbeats 4000000 in
theorem zmo_J_fill2 : zmok zMs zI_J_fill2 := ⟨by decide +kernel, ⟨by decide +kernel, by decide +kernel⟩, zwd_ok (a := 1) (b := 180) (by decide +kernel), zwd_ok (a := 1) (b := 6) (by decide +kernel), by decide +kernel, by rw [if_pos (show zI_J_fill2.2.2.2.2.2.1 = true from rfl)]; exact zwd_ok (a := 1) (b := 179) (by decide +kernel), rfl, by decide +kernel, rfl, fun n e h => by have := zcuts_ok zT_J_fill2 0 (by decide +kernel) n e h; omega, zall_ok zT_J_fill2 (by decide +kernel)⟩
set_option maxRecDepth 100000 in
set_option maxHeartbeats 4000000 in
theorem zmo_W_isFullOfWays : zmok zMs zI_W_isFullOfWays := ⟨by decide +kernel, ⟨by decide +kernel, by decide +kernel⟩, zwd_ok (a := 4) (b := 27) (by decide +kernel), zwd_ok (a := 1) (b := 3) (by decide +kernel), by decide +kernel, by rw [if_neg (by decide)]; exact ⟨zwd_ok (a := 4) (b := 25) (by decide +kernel), zwd_ok (a := 4) (b := 26) (by decide +kernel)⟩, rfl, by decide +kernel, rfl, fun n e h => by have := zcuts_ok zT_W_isFullOfWays 0 (by decide +kernel) n e h; omega, zall_ok zT_W_isFullOfWays (by decide +kernel)⟩
set_option maxRecDepth 100000 in
set_option maxHeartbeats 4000000 in
theorem zmo_W_addWay : zmok zMs zI_W_addWay := ⟨by decide +kernel, ⟨by decide +kernel, by decide +kernel⟩, zwd_ok (a := 4) (b := 31) (by decide +kernel), zwd_ok (a := 1) (b := 3) (by decide +kernel), by decide +kernel, by rw [if_neg (by decide)]; exact ⟨zwd_ok (a := 4) (b := 29) (by decide +kernel), zwd_ok (a := 4) (b := 30) (by decide +kernel)⟩, rfl, by decide +kernel, rfl, fun n e h => by have := zcuts_ok zT_W_addWay 0 (by decide +kernel) n e h; omega, zall_ok zT_W_addWay (by decide +kernel)⟩
