set_option maxRecDepth 100000 in
set_option maxHeartbeats 4000000 in
theorem ymo_Applying : ymok yMs yI_Applying := ⟨by decide +kernel, ⟨by decide +kernel, by decide +kernel⟩, zwd_ok (a := 1) (b := 92) (by decide +kernel), zwd_ok (a := 1) (b := 4) (by decide +kernel), by decide +kernel, zwd_ok (a := 1) (b := 91) (by decide +kernel), rfl, by decide +kernel, rfl, yall_ok yT_Applying (by decide +kernel)⟩
set_option maxRecDepth 100000 in
set_option maxHeartbeats 4000000 in
theorem ymo_Merge : ymok yMs yI_Merge := ⟨by decide +kernel, ⟨by decide +kernel, by decide +kernel⟩, zwd_ok (a := 1) (b := 199) (by decide +kernel), zwd_ok (a := 1) (b := 7) (by decide +kernel), by decide +kernel, zwd_ok (a := 1) (b := 198) (by decide +kernel), rfl, by decide +kernel, rfl, yall_ok yT_Merge (by decide +kernel)⟩
set_option maxRecDepth 100000 in
set_option maxHeartbeats 4000000 in
theorem ymo_Reader : ymok yMs yI_Reader := ⟨by decide +kernel, ⟨by decide +kernel, by decide +kernel⟩, zwd_ok (a := 1) (b := 234) (by decide +kernel), zwd_ok (a := 1) (b := 8) (by decide +kernel), by decide +kernel, zwd_ok (a := 1) (b := 233) (by decide +kernel), rfl, by decide +kernel, rfl, yall_ok yT_Reader (by decide +kernel)⟩
set_option maxRecDepth 100000 in
set_option maxHeartbeats 4000000 in
theorem ymo_Runner : ymok yMs yI_Runner := ⟨by decide +kernel, ⟨by decide +kernel, by decide +kernel⟩, zwd_ok (a := 1) (b := 25) (by decide +kernel), zwd_ok (a := 1) (b := 2) (by decide +kernel), by decide +kernel, zwd_ok (a := 1) (b := 24) (by decide +kernel), rfl, by decide +kernel, rfl, yall_ok yT_Runner (by decide +kernel)⟩
set_option maxRecDepth 100000 in
set_option maxHeartbeats 4000000 in
theorem ymo_Shelves : ymok yMs yI_Shelves := ⟨by decide +kernel, ⟨by decide +kernel, by decide +kernel⟩, zwd_ok (a := 1) (b := 176) (by decide +kernel), zwd_ok (a := 1) (b := 5) (by decide +kernel), by decide +kernel, zwd_ok (a := 1) (b := 175) (by decide +kernel), rfl, by decide +kernel, rfl, yall_ok yT_Shelves (by decide +kernel)⟩
set_option maxRecDepth 100000 in
set_option maxHeartbeats 4000000 in
theorem ymo_World : ymok yMs yI_World := ⟨by decide +kernel, ⟨by decide +kernel, by decide +kernel⟩, zwd_ok (a := 1) (b := 31) (by decide +kernel), zwd_ok (a := 1) (b := 3) (by decide +kernel), by decide +kernel, zwd_ok (a := 1) (b := 30) (by decide +kernel), rfl, by decide +kernel, rfl, yall_ok yT_World (by decide +kernel)⟩
set_option maxRecDepth 100000 in
set_option maxHeartbeats 4000000 in
theorem ymo_ProtoOrders : ymok yMs yI_ProtoOrders := ⟨by decide +kernel, ⟨by decide +kernel, by decide +kernel⟩, zwd_ok (a := 1) (b := 17) (by decide +kernel), zwd_ok (a := 1) (b := 1) (by decide +kernel), by decide +kernel, zwd_ok (a := 1) (b := 16) (by decide +kernel), rfl, by decide +kernel, rfl, yall_ok yT_ProtoOrders (by decide +kernel)⟩
set_option maxRecDepth 100000 in
set_option maxHeartbeats 4000000 in
theorem ymo_ProtoOrdersModel : ymok yMs yI_ProtoOrdersModel := ⟨by decide +kernel, ⟨by decide +kernel, by decide +kernel⟩, zwd_ok (a := 4) (b := 135) (by decide +kernel), zwd_ok (a := 1) (b := 9) (by decide +kernel), by decide +kernel, zwd_ok (a := 4) (b := 134) (by decide +kernel), rfl, by decide +kernel, rfl, yall_ok yT_ProtoOrdersModel (by decide +kernel)⟩
theorem yMs_all : ∀ y ∈ yMs, ymok yMs y := List.forall_mem_cons.mpr ⟨ymo_Applying, List.forall_mem_cons.mpr ⟨ymo_Merge, List.forall_mem_cons.mpr ⟨ymo_Reader, List.forall_mem_cons.mpr ⟨ymo_Runner, List.forall_mem_cons.mpr ⟨ymo_Shelves, List.forall_mem_cons.mpr ⟨ymo_World, List.forall_mem_cons.mpr ⟨ymo_ProtoOrders, List.forall_mem_cons.mpr ⟨ymo_ProtoOrdersModel, fun _ h => absurd h List.not_mem_nil⟩⟩⟩⟩⟩⟩⟩⟩
theorem yMs_ok (mm : Nat) (y : zMeth) (h : yMs[mm]? = some y) : ymok yMs y := yMs_all y (List.mem_of_getElem? h)
