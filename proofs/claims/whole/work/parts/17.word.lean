/-- the texts of the class and of the reference, by their places in the pools; their bytes -/
def zsr : List (String × Nat × String × Nat) := [("SupplyContract", 66, "the buffer has no such length", 0), ("SupplyContract", 193, "the index is negative", 1), ("SupplyContract", 205, "the limit is not 0 to 500", 2), ("SupplyContract", 209, "there is no period after the current one", 3), ("SupplyContract", 226, "the order has been placed", 4), ("SupplyContract", 242, "the breach cannot be waived", 5), ("SupplyContract", 265, "there is no such period", 6), ("SupplyContract", 268, "there is no such breach", 7), ("SupplyContract", 270, "the lead is not 0 to 39", 8), ("SupplyContract", 272, "the number of units is not 0 to 9999", 9), ("SupplyContract", 274, "there is no contract, or it has ended", 10), ("SupplyContract", 276, "the period is not after the current one", 11), ("SupplyContract$DemandReader", 56, "period", 12), ("SupplyContract$DemandReader", 61, "season", 13), ("SupplyContract$DemandReader", 63, "reserved", 14), ("SupplyContract$SetupReader", 71, "contract", 15), ("SupplyContract$SetupReader", 105, "band", 16), ("SupplyContract$SetupReader", 110, "spot", 17), ("SupplyContract$SetupReader", 122, "ladder", 18), ("SupplyContract$SetupReader", 127, "window", 19), ("SupplyContract$SetupReader", 131, "minimum", 20), ("SupplyContract$SetupReader", 135, "miss", 21), ("SupplyContract$SetupReader", 140, "waivers", 22), ("SupplyContract$SetupReader", 147, "demand", 23), ("SupplyContractModel", 121, "period", 24), ("SupplyContractModel", 127, "season", 25), ("SupplyContractModel", 129, "reserved", 26), ("SupplyContractModel", 146, "contract", 27), ("SupplyContractModel", 153, "spot", 28), ("SupplyContractModel", 158, "band", 29), ("SupplyContractModel", 162, "ladder", 30), ("SupplyContractModel", 167, "window", 31), ("SupplyContractModel", 169, "minimum", 32), ("SupplyContractModel", 171, "miss", 33), ("SupplyContractModel", 173, "waivers", 34), ("SupplyContractModel", 175, "demand", 35)]
def zsl : List (List Int32) := [[116, 104, 101, 32, 98, 117, 102, 102, 101, 114, 32, 104, 97, 115, 32, 110, 111, 32, 115, 117, 99, 104, 32, 108, 101, 110, 103, 116, 104], [116, 104, 101, 32, 105, 110, 100, 101, 120, 32, 105, 115, 32, 110, 101, 103, 97, 116, 105, 118, 101], [116, 104, 101, 32, 108, 105, 109, 105, 116, 32, 105, 115, 32, 110, 111, 116, 32, 48, 32, 116, 111, 32, 53, 48, 48], [116, 104, 101, 114, 101, 32, 105, 115, 32, 110, 111, 32, 112, 101, 114, 105, 111, 100, 32, 97, 102, 116, 101, 114, 32, 116, 104, 101, 32, 99, 117, 114, 114, 101, 110, 116, 32, 111, 110, 101], [116, 104, 101, 32, 111, 114, 100, 101, 114, 32, 104, 97, 115, 32, 98, 101, 101, 110, 32, 112, 108, 97, 99, 101, 100], [116, 104, 101, 32, 98, 114, 101, 97, 99, 104, 32, 99, 97, 110, 110, 111, 116, 32, 98, 101, 32, 119, 97, 105, 118, 101, 100], [116, 104, 101, 114, 101, 32, 105, 115, 32, 110, 111, 32, 115, 117, 99, 104, 32, 112, 101, 114, 105, 111, 100], [116, 104, 101, 114, 101, 32, 105, 115, 32, 110, 111, 32, 115, 117, 99, 104, 32, 98, 114, 101, 97, 99, 104], [116, 104, 101, 32, 108, 101, 97, 100, 32, 105, 115, 32, 110, 111, 116, 32, 48, 32, 116, 111, 32, 51, 57], [116, 104, 101, 32, 110, 117, 109, 98, 101, 114, 32, 111, 102, 32, 117, 110, 105, 116, 115, 32, 105, 115, 32, 110, 111, 116, 32, 48, 32, 116, 111, 32, 57, 57, 57, 57], [116, 104, 101, 114, 101, 32, 105, 115, 32, 110, 111, 32, 99, 111, 110, 116, 114, 97, 99, 116, 44, 32, 111, 114, 32, 105, 116, 32, 104, 97, 115, 32, 101, 110, 100, 101, 100], [116, 104, 101, 32, 112, 101, 114, 105, 111, 100, 32, 105, 115, 32, 110, 111, 116, 32, 97, 102, 116, 101, 114, 32, 116, 104, 101, 32, 99, 117, 114, 114, 101, 110, 116, 32, 111, 110, 101], [112, 101, 114, 105, 111, 100], [115, 101, 97, 115, 111, 110], [114, 101, 115, 101, 114, 118, 101, 100], [99, 111, 110, 116, 114, 97, 99, 116], [98, 97, 110, 100], [115, 112, 111, 116], [108, 97, 100, 100, 101, 114], [119, 105, 110, 100, 111, 119], [109, 105, 110, 105, 109, 117, 109], [109, 105, 115, 115], [119, 97, 105, 118, 101, 114, 115], [100, 101, 109, 97, 110, 100], [112, 101, 114, 105, 111, 100], [115, 101, 97, 115, 111, 110], [114, 101, 115, 101, 114, 118, 101, 100], [99, 111, 110, 116, 114, 97, 99, 116], [115, 112, 111, 116], [98, 97, 110, 100], [108, 97, 100, 100, 101, 114], [119, 105, 110, 100, 111, 119], [109, 105, 110, 105, 109, 117, 109], [109, 105, 115, 115], [119, 97, 105, 118, 101, 114, 115], [100, 101, 109, 97, 110, 100]]
def zsb (j : Nat) : List Int32 := zsl.getD j []
def zSS (Z : zZ) (sa : Nat → Nat) : Prop := ∀ (A : Nat → Prop) (U : State) (H : Heap), Z A U H → (∀ j, j < 36 → zStr (sa j) (zsb j) A U H) ∧ ∀ q ∈ zsr, vk_R q.1 q.2.1 q.2.2.1 (sa q.2.2.2) U
theorem zsr_0 : ("SupplyContract", 66, "the buffer has no such length", 0) ∈ zsr := List.mem_of_getElem? (i := 0) rfl
theorem zsb_0 : (zsb 0).length < 2 ^ 31 := by decide
theorem zsk_0 {Z : zZ} {sa : Nat → Nat} (h : zSS Z sa) {A : Nat → Prop} {U : State} {H : Heap} (hZ : Z A U H) : vk_R RX9 66 "the buffer has no such length" (sa 0) U := (h A U H hZ).2 ("SupplyContract", 66, "the buffer has no such length", 0) zsr_0
theorem zsh_0 {Z : zZ} {sa : Nat → Nat} (h : zSS Z sa) : ∀ A U H, Z A U H → zStr (sa 0) (zsb 0) A U H := fun A U H q => (h A U H q).1 0 (by decide)
theorem zsr_1 : ("SupplyContract", 193, "the index is negative", 1) ∈ zsr := List.mem_of_getElem? (i := 1) rfl
theorem zsb_1 : (zsb 1).length < 2 ^ 31 := by decide
theorem zsk_1 {Z : zZ} {sa : Nat → Nat} (h : zSS Z sa) {A : Nat → Prop} {U : State} {H : Heap} (hZ : Z A U H) : vk_R RX9 193 "the index is negative" (sa 1) U := (h A U H hZ).2 ("SupplyContract", 193, "the index is negative", 1) zsr_1
theorem zsh_1 {Z : zZ} {sa : Nat → Nat} (h : zSS Z sa) : ∀ A U H, Z A U H → zStr (sa 1) (zsb 1) A U H := fun A U H q => (h A U H q).1 1 (by decide)
theorem zsr_2 : ("SupplyContract", 205, "the limit is not 0 to 500", 2) ∈ zsr := List.mem_of_getElem? (i := 2) rfl
theorem zsb_2 : (zsb 2).length < 2 ^ 31 := by decide
theorem zsk_2 {Z : zZ} {sa : Nat → Nat} (h : zSS Z sa) {A : Nat → Prop} {U : State} {H : Heap} (hZ : Z A U H) : vk_R RX9 205 "the limit is not 0 to 500" (sa 2) U := (h A U H hZ).2 ("SupplyContract", 205, "the limit is not 0 to 500", 2) zsr_2
theorem zsh_2 {Z : zZ} {sa : Nat → Nat} (h : zSS Z sa) : ∀ A U H, Z A U H → zStr (sa 2) (zsb 2) A U H := fun A U H q => (h A U H q).1 2 (by decide)
theorem zsr_3 : ("SupplyContract", 209, "there is no period after the current one", 3) ∈ zsr := List.mem_of_getElem? (i := 3) rfl
theorem zsb_3 : (zsb 3).length < 2 ^ 31 := by decide
theorem zsk_3 {Z : zZ} {sa : Nat → Nat} (h : zSS Z sa) {A : Nat → Prop} {U : State} {H : Heap} (hZ : Z A U H) : vk_R RX9 209 "there is no period after the current one" (sa 3) U := (h A U H hZ).2 ("SupplyContract", 209, "there is no period after the current one", 3) zsr_3
theorem zsh_3 {Z : zZ} {sa : Nat → Nat} (h : zSS Z sa) : ∀ A U H, Z A U H → zStr (sa 3) (zsb 3) A U H := fun A U H q => (h A U H q).1 3 (by decide)
theorem zsr_4 : ("SupplyContract", 226, "the order has been placed", 4) ∈ zsr := List.mem_of_getElem? (i := 4) rfl
theorem zsb_4 : (zsb 4).length < 2 ^ 31 := by decide
theorem zsk_4 {Z : zZ} {sa : Nat → Nat} (h : zSS Z sa) {A : Nat → Prop} {U : State} {H : Heap} (hZ : Z A U H) : vk_R RX9 226 "the order has been placed" (sa 4) U := (h A U H hZ).2 ("SupplyContract", 226, "the order has been placed", 4) zsr_4
theorem zsh_4 {Z : zZ} {sa : Nat → Nat} (h : zSS Z sa) : ∀ A U H, Z A U H → zStr (sa 4) (zsb 4) A U H := fun A U H q => (h A U H q).1 4 (by decide)
theorem zsr_5 : ("SupplyContract", 242, "the breach cannot be waived", 5) ∈ zsr := List.mem_of_getElem? (i := 5) rfl
theorem zsb_5 : (zsb 5).length < 2 ^ 31 := by decide
theorem zsk_5 {Z : zZ} {sa : Nat → Nat} (h : zSS Z sa) {A : Nat → Prop} {U : State} {H : Heap} (hZ : Z A U H) : vk_R RX9 242 "the breach cannot be waived" (sa 5) U := (h A U H hZ).2 ("SupplyContract", 242, "the breach cannot be waived", 5) zsr_5
theorem zsh_5 {Z : zZ} {sa : Nat → Nat} (h : zSS Z sa) : ∀ A U H, Z A U H → zStr (sa 5) (zsb 5) A U H := fun A U H q => (h A U H q).1 5 (by decide)
theorem zsr_6 : ("SupplyContract", 265, "there is no such period", 6) ∈ zsr := List.mem_of_getElem? (i := 6) rfl
theorem zsb_6 : (zsb 6).length < 2 ^ 31 := by decide
theorem zsk_6 {Z : zZ} {sa : Nat → Nat} (h : zSS Z sa) {A : Nat → Prop} {U : State} {H : Heap} (hZ : Z A U H) : vk_R RX9 265 "there is no such period" (sa 6) U := (h A U H hZ).2 ("SupplyContract", 265, "there is no such period", 6) zsr_6
theorem zsh_6 {Z : zZ} {sa : Nat → Nat} (h : zSS Z sa) : ∀ A U H, Z A U H → zStr (sa 6) (zsb 6) A U H := fun A U H q => (h A U H q).1 6 (by decide)
theorem zsr_7 : ("SupplyContract", 268, "there is no such breach", 7) ∈ zsr := List.mem_of_getElem? (i := 7) rfl
theorem zsb_7 : (zsb 7).length < 2 ^ 31 := by decide
theorem zsk_7 {Z : zZ} {sa : Nat → Nat} (h : zSS Z sa) {A : Nat → Prop} {U : State} {H : Heap} (hZ : Z A U H) : vk_R RX9 268 "there is no such breach" (sa 7) U := (h A U H hZ).2 ("SupplyContract", 268, "there is no such breach", 7) zsr_7
theorem zsh_7 {Z : zZ} {sa : Nat → Nat} (h : zSS Z sa) : ∀ A U H, Z A U H → zStr (sa 7) (zsb 7) A U H := fun A U H q => (h A U H q).1 7 (by decide)
theorem zsr_8 : ("SupplyContract", 270, "the lead is not 0 to 39", 8) ∈ zsr := List.mem_of_getElem? (i := 8) rfl
theorem zsb_8 : (zsb 8).length < 2 ^ 31 := by decide
theorem zsk_8 {Z : zZ} {sa : Nat → Nat} (h : zSS Z sa) {A : Nat → Prop} {U : State} {H : Heap} (hZ : Z A U H) : vk_R RX9 270 "the lead is not 0 to 39" (sa 8) U := (h A U H hZ).2 ("SupplyContract", 270, "the lead is not 0 to 39", 8) zsr_8
theorem zsh_8 {Z : zZ} {sa : Nat → Nat} (h : zSS Z sa) : ∀ A U H, Z A U H → zStr (sa 8) (zsb 8) A U H := fun A U H q => (h A U H q).1 8 (by decide)
theorem zsr_9 : ("SupplyContract", 272, "the number of units is not 0 to 9999", 9) ∈ zsr := List.mem_of_getElem? (i := 9) rfl
theorem zsb_9 : (zsb 9).length < 2 ^ 31 := by decide
theorem zsk_9 {Z : zZ} {sa : Nat → Nat} (h : zSS Z sa) {A : Nat → Prop} {U : State} {H : Heap} (hZ : Z A U H) : vk_R RX9 272 "the number of units is not 0 to 9999" (sa 9) U := (h A U H hZ).2 ("SupplyContract", 272, "the number of units is not 0 to 9999", 9) zsr_9
theorem zsh_9 {Z : zZ} {sa : Nat → Nat} (h : zSS Z sa) : ∀ A U H, Z A U H → zStr (sa 9) (zsb 9) A U H := fun A U H q => (h A U H q).1 9 (by decide)
theorem zsr_10 : ("SupplyContract", 274, "there is no contract, or it has ended", 10) ∈ zsr := List.mem_of_getElem? (i := 10) rfl
theorem zsb_10 : (zsb 10).length < 2 ^ 31 := by decide
theorem zsk_10 {Z : zZ} {sa : Nat → Nat} (h : zSS Z sa) {A : Nat → Prop} {U : State} {H : Heap} (hZ : Z A U H) : vk_R RX9 274 "there is no contract, or it has ended" (sa 10) U := (h A U H hZ).2 ("SupplyContract", 274, "there is no contract, or it has ended", 10) zsr_10
theorem zsh_10 {Z : zZ} {sa : Nat → Nat} (h : zSS Z sa) : ∀ A U H, Z A U H → zStr (sa 10) (zsb 10) A U H := fun A U H q => (h A U H q).1 10 (by decide)
theorem zsr_11 : ("SupplyContract", 276, "the period is not after the current one", 11) ∈ zsr := List.mem_of_getElem? (i := 11) rfl
theorem zsb_11 : (zsb 11).length < 2 ^ 31 := by decide
theorem zsk_11 {Z : zZ} {sa : Nat → Nat} (h : zSS Z sa) {A : Nat → Prop} {U : State} {H : Heap} (hZ : Z A U H) : vk_R RX9 276 "the period is not after the current one" (sa 11) U := (h A U H hZ).2 ("SupplyContract", 276, "the period is not after the current one", 11) zsr_11
theorem zsh_11 {Z : zZ} {sa : Nat → Nat} (h : zSS Z sa) : ∀ A U H, Z A U H → zStr (sa 11) (zsb 11) A U H := fun A U H q => (h A U H q).1 11 (by decide)
theorem zsr_12 : ("SupplyContract$DemandReader", 56, "period", 12) ∈ zsr := List.mem_of_getElem? (i := 12) rfl
theorem zsb_12 : (zsb 12).length < 2 ^ 31 := by decide
theorem zsk_12 {Z : zZ} {sa : Nat → Nat} (h : zSS Z sa) {A : Nat → Prop} {U : State} {H : Heap} (hZ : Z A U H) : vk_R RX3 56 "period" (sa 12) U := (h A U H hZ).2 ("SupplyContract$DemandReader", 56, "period", 12) zsr_12
theorem zsh_12 {Z : zZ} {sa : Nat → Nat} (h : zSS Z sa) : ∀ A U H, Z A U H → zStr (sa 12) (zsb 12) A U H := fun A U H q => (h A U H q).1 12 (by decide)
theorem zsr_13 : ("SupplyContract$DemandReader", 61, "season", 13) ∈ zsr := List.mem_of_getElem? (i := 13) rfl
theorem zsb_13 : (zsb 13).length < 2 ^ 31 := by decide
theorem zsk_13 {Z : zZ} {sa : Nat → Nat} (h : zSS Z sa) {A : Nat → Prop} {U : State} {H : Heap} (hZ : Z A U H) : vk_R RX3 61 "season" (sa 13) U := (h A U H hZ).2 ("SupplyContract$DemandReader", 61, "season", 13) zsr_13
theorem zsh_13 {Z : zZ} {sa : Nat → Nat} (h : zSS Z sa) : ∀ A U H, Z A U H → zStr (sa 13) (zsb 13) A U H := fun A U H q => (h A U H q).1 13 (by decide)
theorem zsr_14 : ("SupplyContract$DemandReader", 63, "reserved", 14) ∈ zsr := List.mem_of_getElem? (i := 14) rfl
theorem zsb_14 : (zsb 14).length < 2 ^ 31 := by decide
theorem zsk_14 {Z : zZ} {sa : Nat → Nat} (h : zSS Z sa) {A : Nat → Prop} {U : State} {H : Heap} (hZ : Z A U H) : vk_R RX3 63 "reserved" (sa 14) U := (h A U H hZ).2 ("SupplyContract$DemandReader", 63, "reserved", 14) zsr_14
theorem zsh_14 {Z : zZ} {sa : Nat → Nat} (h : zSS Z sa) : ∀ A U H, Z A U H → zStr (sa 14) (zsb 14) A U H := fun A U H q => (h A U H q).1 14 (by decide)
theorem zsr_15 : ("SupplyContract$SetupReader", 71, "contract", 15) ∈ zsr := List.mem_of_getElem? (i := 15) rfl
theorem zsb_15 : (zsb 15).length < 2 ^ 31 := by decide
theorem zsk_15 {Z : zZ} {sa : Nat → Nat} (h : zSS Z sa) {A : Nat → Prop} {U : State} {H : Heap} (hZ : Z A U H) : vk_R RX6 71 "contract" (sa 15) U := (h A U H hZ).2 ("SupplyContract$SetupReader", 71, "contract", 15) zsr_15
theorem zsh_15 {Z : zZ} {sa : Nat → Nat} (h : zSS Z sa) : ∀ A U H, Z A U H → zStr (sa 15) (zsb 15) A U H := fun A U H q => (h A U H q).1 15 (by decide)
theorem zsr_16 : ("SupplyContract$SetupReader", 105, "band", 16) ∈ zsr := List.mem_of_getElem? (i := 16) rfl
theorem zsb_16 : (zsb 16).length < 2 ^ 31 := by decide
theorem zsk_16 {Z : zZ} {sa : Nat → Nat} (h : zSS Z sa) {A : Nat → Prop} {U : State} {H : Heap} (hZ : Z A U H) : vk_R RX6 105 "band" (sa 16) U := (h A U H hZ).2 ("SupplyContract$SetupReader", 105, "band", 16) zsr_16
theorem zsh_16 {Z : zZ} {sa : Nat → Nat} (h : zSS Z sa) : ∀ A U H, Z A U H → zStr (sa 16) (zsb 16) A U H := fun A U H q => (h A U H q).1 16 (by decide)
theorem zsr_17 : ("SupplyContract$SetupReader", 110, "spot", 17) ∈ zsr := List.mem_of_getElem? (i := 17) rfl
theorem zsb_17 : (zsb 17).length < 2 ^ 31 := by decide
theorem zsk_17 {Z : zZ} {sa : Nat → Nat} (h : zSS Z sa) {A : Nat → Prop} {U : State} {H : Heap} (hZ : Z A U H) : vk_R RX6 110 "spot" (sa 17) U := (h A U H hZ).2 ("SupplyContract$SetupReader", 110, "spot", 17) zsr_17
theorem zsh_17 {Z : zZ} {sa : Nat → Nat} (h : zSS Z sa) : ∀ A U H, Z A U H → zStr (sa 17) (zsb 17) A U H := fun A U H q => (h A U H q).1 17 (by decide)
theorem zsr_18 : ("SupplyContract$SetupReader", 122, "ladder", 18) ∈ zsr := List.mem_of_getElem? (i := 18) rfl
theorem zsb_18 : (zsb 18).length < 2 ^ 31 := by decide
theorem zsk_18 {Z : zZ} {sa : Nat → Nat} (h : zSS Z sa) {A : Nat → Prop} {U : State} {H : Heap} (hZ : Z A U H) : vk_R RX6 122 "ladder" (sa 18) U := (h A U H hZ).2 ("SupplyContract$SetupReader", 122, "ladder", 18) zsr_18
theorem zsh_18 {Z : zZ} {sa : Nat → Nat} (h : zSS Z sa) : ∀ A U H, Z A U H → zStr (sa 18) (zsb 18) A U H := fun A U H q => (h A U H q).1 18 (by decide)
theorem zsr_19 : ("SupplyContract$SetupReader", 127, "window", 19) ∈ zsr := List.mem_of_getElem? (i := 19) rfl
theorem zsb_19 : (zsb 19).length < 2 ^ 31 := by decide
theorem zsk_19 {Z : zZ} {sa : Nat → Nat} (h : zSS Z sa) {A : Nat → Prop} {U : State} {H : Heap} (hZ : Z A U H) : vk_R RX6 127 "window" (sa 19) U := (h A U H hZ).2 ("SupplyContract$SetupReader", 127, "window", 19) zsr_19
theorem zsh_19 {Z : zZ} {sa : Nat → Nat} (h : zSS Z sa) : ∀ A U H, Z A U H → zStr (sa 19) (zsb 19) A U H := fun A U H q => (h A U H q).1 19 (by decide)
theorem zsr_20 : ("SupplyContract$SetupReader", 131, "minimum", 20) ∈ zsr := List.mem_of_getElem? (i := 20) rfl
theorem zsb_20 : (zsb 20).length < 2 ^ 31 := by decide
theorem zsk_20 {Z : zZ} {sa : Nat → Nat} (h : zSS Z sa) {A : Nat → Prop} {U : State} {H : Heap} (hZ : Z A U H) : vk_R RX6 131 "minimum" (sa 20) U := (h A U H hZ).2 ("SupplyContract$SetupReader", 131, "minimum", 20) zsr_20
theorem zsh_20 {Z : zZ} {sa : Nat → Nat} (h : zSS Z sa) : ∀ A U H, Z A U H → zStr (sa 20) (zsb 20) A U H := fun A U H q => (h A U H q).1 20 (by decide)
theorem zsr_21 : ("SupplyContract$SetupReader", 135, "miss", 21) ∈ zsr := List.mem_of_getElem? (i := 21) rfl
theorem zsb_21 : (zsb 21).length < 2 ^ 31 := by decide
theorem zsk_21 {Z : zZ} {sa : Nat → Nat} (h : zSS Z sa) {A : Nat → Prop} {U : State} {H : Heap} (hZ : Z A U H) : vk_R RX6 135 "miss" (sa 21) U := (h A U H hZ).2 ("SupplyContract$SetupReader", 135, "miss", 21) zsr_21
theorem zsh_21 {Z : zZ} {sa : Nat → Nat} (h : zSS Z sa) : ∀ A U H, Z A U H → zStr (sa 21) (zsb 21) A U H := fun A U H q => (h A U H q).1 21 (by decide)
theorem zsr_22 : ("SupplyContract$SetupReader", 140, "waivers", 22) ∈ zsr := List.mem_of_getElem? (i := 22) rfl
theorem zsb_22 : (zsb 22).length < 2 ^ 31 := by decide
theorem zsk_22 {Z : zZ} {sa : Nat → Nat} (h : zSS Z sa) {A : Nat → Prop} {U : State} {H : Heap} (hZ : Z A U H) : vk_R RX6 140 "waivers" (sa 22) U := (h A U H hZ).2 ("SupplyContract$SetupReader", 140, "waivers", 22) zsr_22
theorem zsh_22 {Z : zZ} {sa : Nat → Nat} (h : zSS Z sa) : ∀ A U H, Z A U H → zStr (sa 22) (zsb 22) A U H := fun A U H q => (h A U H q).1 22 (by decide)
theorem zsr_23 : ("SupplyContract$SetupReader", 147, "demand", 23) ∈ zsr := List.mem_of_getElem? (i := 23) rfl
theorem zsb_23 : (zsb 23).length < 2 ^ 31 := by decide
theorem zsk_23 {Z : zZ} {sa : Nat → Nat} (h : zSS Z sa) {A : Nat → Prop} {U : State} {H : Heap} (hZ : Z A U H) : vk_R RX6 147 "demand" (sa 23) U := (h A U H hZ).2 ("SupplyContract$SetupReader", 147, "demand", 23) zsr_23
theorem zsh_23 {Z : zZ} {sa : Nat → Nat} (h : zSS Z sa) : ∀ A U H, Z A U H → zStr (sa 23) (zsb 23) A U H := fun A U H q => (h A U H q).1 23 (by decide)
theorem zsr_24 : ("SupplyContractModel", 121, "period", 24) ∈ zsr := List.mem_of_getElem? (i := 24) rfl
theorem zsb_24 : (zsb 24).length < 2 ^ 31 := by decide
theorem zsk_24 {Z : zZ} {sa : Nat → Nat} (h : zSS Z sa) {A : Nat → Prop} {U : State} {H : Heap} (hZ : Z A U H) : vk_R RX10 121 "period" (sa 24) U := (h A U H hZ).2 ("SupplyContractModel", 121, "period", 24) zsr_24
theorem zsh_24 {Z : zZ} {sa : Nat → Nat} (h : zSS Z sa) : ∀ A U H, Z A U H → zStr (sa 24) (zsb 24) A U H := fun A U H q => (h A U H q).1 24 (by decide)
theorem zsr_25 : ("SupplyContractModel", 127, "season", 25) ∈ zsr := List.mem_of_getElem? (i := 25) rfl
theorem zsb_25 : (zsb 25).length < 2 ^ 31 := by decide
theorem zsk_25 {Z : zZ} {sa : Nat → Nat} (h : zSS Z sa) {A : Nat → Prop} {U : State} {H : Heap} (hZ : Z A U H) : vk_R RX10 127 "season" (sa 25) U := (h A U H hZ).2 ("SupplyContractModel", 127, "season", 25) zsr_25
theorem zsh_25 {Z : zZ} {sa : Nat → Nat} (h : zSS Z sa) : ∀ A U H, Z A U H → zStr (sa 25) (zsb 25) A U H := fun A U H q => (h A U H q).1 25 (by decide)
theorem zsr_26 : ("SupplyContractModel", 129, "reserved", 26) ∈ zsr := List.mem_of_getElem? (i := 26) rfl
theorem zsb_26 : (zsb 26).length < 2 ^ 31 := by decide
theorem zsk_26 {Z : zZ} {sa : Nat → Nat} (h : zSS Z sa) {A : Nat → Prop} {U : State} {H : Heap} (hZ : Z A U H) : vk_R RX10 129 "reserved" (sa 26) U := (h A U H hZ).2 ("SupplyContractModel", 129, "reserved", 26) zsr_26
theorem zsh_26 {Z : zZ} {sa : Nat → Nat} (h : zSS Z sa) : ∀ A U H, Z A U H → zStr (sa 26) (zsb 26) A U H := fun A U H q => (h A U H q).1 26 (by decide)
theorem zsr_27 : ("SupplyContractModel", 146, "contract", 27) ∈ zsr := List.mem_of_getElem? (i := 27) rfl
theorem zsb_27 : (zsb 27).length < 2 ^ 31 := by decide
theorem zsk_27 {Z : zZ} {sa : Nat → Nat} (h : zSS Z sa) {A : Nat → Prop} {U : State} {H : Heap} (hZ : Z A U H) : vk_R RX10 146 "contract" (sa 27) U := (h A U H hZ).2 ("SupplyContractModel", 146, "contract", 27) zsr_27
theorem zsh_27 {Z : zZ} {sa : Nat → Nat} (h : zSS Z sa) : ∀ A U H, Z A U H → zStr (sa 27) (zsb 27) A U H := fun A U H q => (h A U H q).1 27 (by decide)
theorem zsr_28 : ("SupplyContractModel", 153, "spot", 28) ∈ zsr := List.mem_of_getElem? (i := 28) rfl
theorem zsb_28 : (zsb 28).length < 2 ^ 31 := by decide
theorem zsk_28 {Z : zZ} {sa : Nat → Nat} (h : zSS Z sa) {A : Nat → Prop} {U : State} {H : Heap} (hZ : Z A U H) : vk_R RX10 153 "spot" (sa 28) U := (h A U H hZ).2 ("SupplyContractModel", 153, "spot", 28) zsr_28
theorem zsh_28 {Z : zZ} {sa : Nat → Nat} (h : zSS Z sa) : ∀ A U H, Z A U H → zStr (sa 28) (zsb 28) A U H := fun A U H q => (h A U H q).1 28 (by decide)
theorem zsr_29 : ("SupplyContractModel", 158, "band", 29) ∈ zsr := List.mem_of_getElem? (i := 29) rfl
theorem zsb_29 : (zsb 29).length < 2 ^ 31 := by decide
theorem zsk_29 {Z : zZ} {sa : Nat → Nat} (h : zSS Z sa) {A : Nat → Prop} {U : State} {H : Heap} (hZ : Z A U H) : vk_R RX10 158 "band" (sa 29) U := (h A U H hZ).2 ("SupplyContractModel", 158, "band", 29) zsr_29
theorem zsh_29 {Z : zZ} {sa : Nat → Nat} (h : zSS Z sa) : ∀ A U H, Z A U H → zStr (sa 29) (zsb 29) A U H := fun A U H q => (h A U H q).1 29 (by decide)
theorem zsr_30 : ("SupplyContractModel", 162, "ladder", 30) ∈ zsr := List.mem_of_getElem? (i := 30) rfl
theorem zsb_30 : (zsb 30).length < 2 ^ 31 := by decide
theorem zsk_30 {Z : zZ} {sa : Nat → Nat} (h : zSS Z sa) {A : Nat → Prop} {U : State} {H : Heap} (hZ : Z A U H) : vk_R RX10 162 "ladder" (sa 30) U := (h A U H hZ).2 ("SupplyContractModel", 162, "ladder", 30) zsr_30
theorem zsh_30 {Z : zZ} {sa : Nat → Nat} (h : zSS Z sa) : ∀ A U H, Z A U H → zStr (sa 30) (zsb 30) A U H := fun A U H q => (h A U H q).1 30 (by decide)
theorem zsr_31 : ("SupplyContractModel", 167, "window", 31) ∈ zsr := List.mem_of_getElem? (i := 31) rfl
theorem zsb_31 : (zsb 31).length < 2 ^ 31 := by decide
theorem zsk_31 {Z : zZ} {sa : Nat → Nat} (h : zSS Z sa) {A : Nat → Prop} {U : State} {H : Heap} (hZ : Z A U H) : vk_R RX10 167 "window" (sa 31) U := (h A U H hZ).2 ("SupplyContractModel", 167, "window", 31) zsr_31
theorem zsh_31 {Z : zZ} {sa : Nat → Nat} (h : zSS Z sa) : ∀ A U H, Z A U H → zStr (sa 31) (zsb 31) A U H := fun A U H q => (h A U H q).1 31 (by decide)
theorem zsr_32 : ("SupplyContractModel", 169, "minimum", 32) ∈ zsr := List.mem_of_getElem? (i := 32) rfl
theorem zsb_32 : (zsb 32).length < 2 ^ 31 := by decide
theorem zsk_32 {Z : zZ} {sa : Nat → Nat} (h : zSS Z sa) {A : Nat → Prop} {U : State} {H : Heap} (hZ : Z A U H) : vk_R RX10 169 "minimum" (sa 32) U := (h A U H hZ).2 ("SupplyContractModel", 169, "minimum", 32) zsr_32
theorem zsh_32 {Z : zZ} {sa : Nat → Nat} (h : zSS Z sa) : ∀ A U H, Z A U H → zStr (sa 32) (zsb 32) A U H := fun A U H q => (h A U H q).1 32 (by decide)
theorem zsr_33 : ("SupplyContractModel", 171, "miss", 33) ∈ zsr := List.mem_of_getElem? (i := 33) rfl
theorem zsb_33 : (zsb 33).length < 2 ^ 31 := by decide
theorem zsk_33 {Z : zZ} {sa : Nat → Nat} (h : zSS Z sa) {A : Nat → Prop} {U : State} {H : Heap} (hZ : Z A U H) : vk_R RX10 171 "miss" (sa 33) U := (h A U H hZ).2 ("SupplyContractModel", 171, "miss", 33) zsr_33
theorem zsh_33 {Z : zZ} {sa : Nat → Nat} (h : zSS Z sa) : ∀ A U H, Z A U H → zStr (sa 33) (zsb 33) A U H := fun A U H q => (h A U H q).1 33 (by decide)
theorem zsr_34 : ("SupplyContractModel", 173, "waivers", 34) ∈ zsr := List.mem_of_getElem? (i := 34) rfl
theorem zsb_34 : (zsb 34).length < 2 ^ 31 := by decide
theorem zsk_34 {Z : zZ} {sa : Nat → Nat} (h : zSS Z sa) {A : Nat → Prop} {U : State} {H : Heap} (hZ : Z A U H) : vk_R RX10 173 "waivers" (sa 34) U := (h A U H hZ).2 ("SupplyContractModel", 173, "waivers", 34) zsr_34
theorem zsh_34 {Z : zZ} {sa : Nat → Nat} (h : zSS Z sa) : ∀ A U H, Z A U H → zStr (sa 34) (zsb 34) A U H := fun A U H q => (h A U H q).1 34 (by decide)
theorem zsr_35 : ("SupplyContractModel", 175, "demand", 35) ∈ zsr := List.mem_of_getElem? (i := 35) rfl
theorem zsb_35 : (zsb 35).length < 2 ^ 31 := by decide
theorem zsk_35 {Z : zZ} {sa : Nat → Nat} (h : zSS Z sa) {A : Nat → Prop} {U : State} {H : Heap} (hZ : Z A U H) : vk_R RX10 175 "demand" (sa 35) U := (h A U H hZ).2 ("SupplyContractModel", 175, "demand", 35) zsr_35
theorem zsh_35 {Z : zZ} {sa : Nat → Nat} (h : zSS Z sa) : ∀ A U H, Z A U H → zStr (sa 35) (zsb 35) A U H := fun A U H q => (h A U H q).1 35 (by decide)
abbrev r_X5_isWord : Room := { frames := 4, cells := 0, slots := 0, locals := 141 }
def j_X5_isWord_30 (K30 : (Int32 × S_X5) → Prop) (b1 : List Int32) (x2 : Int32) (u0 : S_X5) (post : Int32 → S_X5 → Prop) : Prop := ((Int32.ofNat b1.length) ≤ x2 → (post (1 : Int32) u0)) ∧ (¬ ((Int32.ofNat b1.length) ≤ x2) → (vp_in (u0.2.2.2.2.2.1 + x2) 800 ∧ (vp_in x2 b1.length ∧ (((u0.1 (u0.2.2.2.2.2.1 + x2).toNatClampNeg) = (b1.getD x2.toNatClampNeg 0 &&& 255) → (∀ x_13 : Int32, x_13 = x2 + 1 → (K30 (x_13, u0)))) ∧ (¬ ((u0.1 (u0.2.2.2.2.2.1 + x2).toNatClampNeg) = (b1.getD x2.toNatClampNeg 0 &&& 255)) → (post (0 : Int32) u0))))))
def wp_X5_isWord (b1 : List Int32) (u0 : S_X5) (post : Int32 → S_X5 → Prop) : Prop := (¬ (u0.2.2.2.2.1 = (257 : Int32)) → (post (0 : Int32) u0)) ∧ (u0.2.2.2.2.1 = (257 : Int32) → (((u0.2.2.2.1 - u0.2.2.2.2.2.1) = (Int32.ofNat b1.length) → (∃ n, zl (fun K st => j_X5_isWord_30 K b1 st.1 st.2 post) n ((0 : Int32), u0))) ∧ (¬ ((u0.2.2.2.1 - u0.2.2.2.2.2.1) = (Int32.ofNat b1.length)) → (post (0 : Int32) u0))))
set_option maxHeartbeats 4000000 in
set_option maxRecDepth 100000 in
theorem t_X5_isWord_30 {p : Program} {l : Launch} {e : Env} {s : State} {m : MethodId} {args : Array Value} {below : List Frame} {meth : Method} {c : Code} {Z : zZ} {E : zE} {A : Nat → Prop} {q0 : Nat → Nat} (hZ0 : zSt Z) (a1 : Nat) (b1 : List Int32) (hb1 : b1.length < 2 ^ 31) (hs1 : ∀ A U H, Z A U H → zStr a1 b1 A U H) (C0 : zC p s m args meth c yX5_isWord cX5_isWord 3 (some .boolean)) (hA : ∀ q : Nat, s.heap.size ≤ q → A q) (hK : va_K (zD E) vwCl (zT E) s) (hZ : Z A s s.heap) (post : Int32 → S_X5 → Prop) : ∀ (n : Nat) (x2 : Int32) (u0 : S_X5) (H : Heap) (locs : List Loc) (ls : Array Slot), zl (fun K st => j_X5_isWord_30 K b1 st.1 st.2 post) n (x2, u0) → va_P (zD E) vwCl (k_X5 E q0 u0) H → va_D A (k_X5 E q0 u0) → va_S A s.heap H locs → lv_has ls 3 [(0, .ref (q0 0)), (1, .ref a1), (2, .int x2)] → W p l e r_X5_isWord s m args below meth c H locs 0 0 (MQ below (va_Qi post (zAt E A (fun u => k_X5 E q0 u)) A) args s 0 0 A) (F0 m 30 ls []) := by
  obtain ⟨hx, hb, hml, hr, hown, hts, hlocks, hin⟩ := id C0
  have hown : s.vm.findClass RX5 = some m.cls := hown
  intro n
  induction n with
  | zero => intro x2 u0 H locs ls hw; exact hw.elim
  | succ n hk_30 =>
    intro x2 u0 H locs ls hw hP hD hS hl
    have hw : j_X5_isWord_30 _ b1 x2 u0 post := hw
    refine lv_iload_n hx hb dX5_isWord_30 rfl (lv_at hl 2 rfl) ?_
    refine lv_aload_n hx hb dX5_isWord_31 rfl (lv_at hl 1 rfl) ?_
    refine z_ki (z_rT (rest := [.int x2]) hZ0 C0 hK hZ hA hP hD hS hl.1 (c_J0_length l E Z hZ0 a1 b1 hs1 H.size (fun r _ => r = Int32.ofNat b1.length) rfl) yv_X5_62 [] rfl (by decide) (hs1 _ _ _ hZ).1 ⟨Nat.le_of_ble_eq_true rfl, Nat.le_of_ble_eq_true rfl⟩ ⟨rfl, rfl⟩ rfl rfl (Nat.le_of_ble_eq_true rfl) ⟨Nat.le_of_ble_eq_true rfl, Nat.le_of_ble_eq_true rfl⟩ dX5_isWord_32) hP hD hS hA [] [0, 1] [0, 1] rfl (wr := [_, _]) rfl (by decide) (by decide) (fun _ => k_X5 E q0 u0) (fun _ => rfl) (by decide) (fun r_5 u_6 H locs er_5 hP hD hS => ?_)
    subst er_5
    obtain ⟨hwt, hwf⟩ := hw
    refine lv_icmp_ge (tgt := 65) hx hb dX5_isWord_35 (by decide) (fun c_7 => ?_) (fun c_7 => ?_)
    · have hw := hwt c_7
      refine lv_iconst (v := 1) hx hb dX5_isWord_65 rfl ?_
      exact z_zret (k := (fun u => k_X5 E q0 u)) u0 C0 rfl hP hD hS hw dX5_isWord_66
    · have hw := hwf c_7
      refine lv_aload_n hx hb dX5_isWord_38 rfl (lv_at hl 0 rfl) ?_
      refine va_get (D := zD E) (ci := 5) (v := .ref (q0 1)) (C := RX5) (T := TX5) (N := 9) hx hb hts uw_X5 hown hK hP 0 rfl rfl 0 (by decide) (hts _ wm_2_4) (fun _ h9 => h9) rfl dX5_isWord_39 ?_
      refine lv_aload_n hx hb dX5_isWord_42 rfl (lv_at hl 0 rfl) ?_
      refine va_get (D := zD E) (ci := 5) (v := .int u0.2.2.2.2.2.1) (C := RX5) (T := TX5) (N := 9) hx hb hts uw_X5 hown hK hP 0 rfl rfl 5 (by decide) (hts _ wm_2_12) (fun _ h9 => h9) rfl dX5_isWord_43 ?_
      refine lv_iload_n hx hb dX5_isWord_46 rfl (lv_at hl 2 rfl) ?_
      refine lv_iadd hx hb dX5_isWord_47 ?_
      obtain ⟨h_8, hw⟩ := hw
      refine va_bald hx hb hK hP 1 3 rfl rfl h_8 dX5_isWord_48 ?_
      refine lv_aload_n hx hb dX5_isWord_49 rfl (lv_at hl 1 rfl) ?_
      refine lv_iload_n hx hb dX5_isWord_50 rfl (lv_at hl 2 rfl) ?_
      obtain ⟨h_11, hw⟩ := hw
      refine z_ki (z_rT (rest := [.int (u0.1 (u0.2.2.2.2.2.1 + x2).toNatClampNeg)]) hZ0 C0 hK hZ hA hP hD hS hl.1 (c_J0_charAt l E Z hZ0 a1 b1 hb1 hs1 H.size x2 (fun r _ => r = b1.getD x2.toNatClampNeg 0 &&& 255) h_11 rfl) yv_X5_67 [] rfl (by decide) (hs1 _ _ _ hZ).1 ⟨Nat.le_of_ble_eq_true rfl, Nat.le_of_ble_eq_true rfl⟩ ⟨rfl, rfl⟩ rfl rfl (Nat.le_of_ble_eq_true rfl) ⟨Nat.le_of_ble_eq_true rfl, Nat.le_of_ble_eq_true rfl⟩ dX5_isWord_51) hP hD hS hA [] [0, 1] [0, 1] rfl (wr := [_, _]) rfl (by decide) (by decide) (fun _ => k_X5 E q0 u0) (fun _ => rfl) (by decide) (fun r_9 u_10 H locs er_9 hP hD hS => ?_)
      subst er_9
      obtain ⟨hwt, hwf⟩ := hw
      refine lv_icmp_eq (tgt := 59) hx hb dX5_isWord_54 (by decide) (fun c_12 => ?_) (fun c_12 => ?_)
      · have hw := hwt c_12
        obtain ⟨x_13, ex_13⟩ : ∃ y : Int32, y = x2 + 1 := ⟨_, rfl⟩
        have hw := hw x_13 ex_13
        refine lv_iinc (v := x_13) (lv' := [(2, .int x_13), (0, .ref (q0 0)), (1, .ref a1)]) hx hb dX5_isWord_59 hl (k := 2) rfl (by rw [ex_13]; rfl) (by decide) rfl (fun ls hl => ?_)
        refine lv_goto (tgt := 30) hx hb dX5_isWord_62 (by decide) ?_
        exact hk_30 x_13 u0 _ _ _ hw hP hD hS (lv_sub hl [1, 2, 0] rfl)
      · have hw := hwf c_12
        refine lv_iconst (v := 0) hx hb dX5_isWord_57 rfl ?_
        exact z_zret (k := (fun u => k_X5 E q0 u)) u0 C0 rfl hP hD hS hw dX5_isWord_58
set_option maxHeartbeats 4000000 in
set_option maxRecDepth 100000 in
theorem c_X5_isWord (l : Launch) (E : zE) (Z : zZ) (hZ0 : zSt Z) (a1 : Nat) (b1 : List Int32) (hb1 : b1.length < 2 ^ 31) (hs1 : ∀ A U H, Z A U H → zStr a1 b1 A U H) (q0 : Nat → Nat) (sz : Nat) (u0 : S_X5) (post : Int32 → S_X5 → Prop) (hw : wp_X5_isWord b1 u0 post) : Met l yX5_isWord (zws yX5_isWord cX5_isWord 3 (some .boolean)) r_X5_isWord (va_Pc [.ref (q0 0), .ref a1] (zPre Z E (k_X5 E q0 u0) sz)) (va_Qi post (zAt E (va_A (k_X5 E q0 u0) sz) (fun u => k_X5 E q0 u)) (va_A (k_X5 E q0 u0) sz)) 0 0 (va_A (k_X5 E q0 u0) sz) := by
  refine z_ofW (Qf := fun A => va_Qi post (zAt E A (fun u => k_X5 E q0 u)) A) (by decide) (Nat.le_of_ble_eq_true rfl) ?_
  intro p e s m args below meth c A ls C0 hA hK hZ hP hD hS hl
  obtain ⟨hx, hb, hml, hr, hown, hts, hlocks, hin⟩ := id C0
  have hown : s.vm.findClass RX5 = some m.cls := hown
  have hl : lv_has ls 3 [(0, .ref (q0 0)), (1, .ref a1)] := hl
  refine lv_aload_n hx hb dX5_isWord_0 rfl (lv_at hl 0 rfl) ?_
  refine va_get (D := zD E) (ci := 5) (v := .int u0.2.2.2.2.1) (C := RX5) (T := TX5) (N := 9) hx hb hts uw_X5 hown hK hP 0 rfl rfl 4 (by decide) (hts _ wm_2_9) (fun _ h9 => h9) rfl dX5_isWord_1 ?_
  refine lv_sipush (v := 257) hx hb dX5_isWord_4 rfl ?_
  obtain ⟨hwt, hwf⟩ := hw
  refine lv_icmp_ne (tgt := 26) hx hb dX5_isWord_7 (by decide) (fun c_1 => ?_) (fun c_1 => ?_)
  · have hw := hwt c_1
    refine lv_iconst (v := 0) hx hb dX5_isWord_26 rfl ?_
    exact z_zret (k := (fun u => k_X5 E q0 u)) u0 C0 rfl hP hD hS hw dX5_isWord_27
  · have hw := hwf c_1
    refine lv_aload_n hx hb dX5_isWord_10 rfl (lv_at hl 0 rfl) ?_
    refine va_get (D := zD E) (ci := 5) (v := .int u0.2.2.2.1) (C := RX5) (T := TX5) (N := 9) hx hb hts uw_X5 hown hK hP 0 rfl rfl 3 (by decide) (hts _ wm_2_8) (fun _ h9 => h9) rfl dX5_isWord_11 ?_
    refine lv_aload_n hx hb dX5_isWord_14 rfl (lv_at hl 0 rfl) ?_
    refine va_get (D := zD E) (ci := 5) (v := .int u0.2.2.2.2.2.1) (C := RX5) (T := TX5) (N := 9) hx hb hts uw_X5 hown hK hP 0 rfl rfl 5 (by decide) (hts _ wm_2_12) (fun _ h9 => h9) rfl dX5_isWord_15 ?_
    refine lv_isub hx hb dX5_isWord_18 ?_
    refine lv_aload_n hx hb dX5_isWord_19 rfl (lv_at hl 1 rfl) ?_
    refine z_ki (z_rT (rest := [.int (u0.2.2.2.1 - u0.2.2.2.2.2.1)]) hZ0 C0 hK hZ hA hP hD hS hl.1 (c_J0_length l E Z hZ0 a1 b1 hs1 s.heap.size (fun r _ => r = Int32.ofNat b1.length) rfl) yv_X5_62 [] rfl (by decide) (hs1 _ _ _ hZ).1 ⟨Nat.le_of_ble_eq_true rfl, Nat.le_of_ble_eq_true rfl⟩ ⟨rfl, rfl⟩ rfl rfl (Nat.le_of_ble_eq_true rfl) ⟨Nat.le_of_ble_eq_true rfl, Nat.le_of_ble_eq_true rfl⟩ dX5_isWord_20) hP hD hS hA [] [0, 1] [0, 1] rfl (wr := [_, _]) rfl (by decide) (by decide) (fun _ => k_X5 E q0 u0) (fun _ => rfl) (by decide) (fun r_2 u_3 H locs er_2 hP hD hS => ?_)
    subst er_2
    obtain ⟨hwt, hwf⟩ := hw
    refine lv_icmp_eq (tgt := 28) hx hb dX5_isWord_23 (by decide) (fun c_4 => ?_) (fun c_4 => ?_)
    · have hw := hwt c_4
      refine lv_iconst (v := 0) hx hb dX5_isWord_28 rfl ?_
      refine lv_istore_n (lv' := [(2, .int (0 : Int32)), (0, .ref (q0 0)), (1, .ref a1)]) hx hb dX5_isWord_29 rfl hl (by decide) rfl (fun ls hl => ?_)
      obtain ⟨n9, hw⟩ := hw
      exact t_X5_isWord_30 (l := l) hZ0 a1 b1 hb1 hs1 C0 hA hK hZ post n9 (0 : Int32) u0 _ _ _ hw hP hD hS (lv_sub hl [1, 2, 0] rfl)
    · have hw := hwf c_4
      refine lv_iconst (v := 0) hx hb dX5_isWord_26 rfl ?_
      exact z_zret (k := (fun u => k_X5 E q0 u)) u0 C0 rfl hP hD hS hw dX5_isWord_27
abbrev r_X5_takeWord : Room := { frames := 5, cells := 0, slots := 0, locals := 163 }
def wp_X5_takeWord (b1 : List Int32) (u0 : S_X5) (post : Int32 → S_X5 → Prop) : Prop := wp_X5_isWord b1 u0 (fun r_2 u_1 => (r_2 = 0 → ((narrow .boolean (.int r_2) = .int r_2) ∧ (post r_2 u_1))) ∧ (¬ (r_2 = 0) → (wp_X5_advance u_1 (fun u_5 => (narrow .boolean (.int r_2) = .int r_2) ∧ (post r_2 u_5)))))
set_option maxHeartbeats 4000000 in
set_option maxRecDepth 100000 in
theorem c_X5_takeWord (l : Launch) (E : zE) (Z : zZ) (hZ0 : zSt Z) (a1 : Nat) (b1 : List Int32) (hb1 : b1.length < 2 ^ 31) (hs1 : ∀ A U H, Z A U H → zStr a1 b1 A U H) (q0 : Nat → Nat) (sz : Nat) (u0 : S_X5) (post : Int32 → S_X5 → Prop) (hw : wp_X5_takeWord b1 u0 post) : Met l yX5_takeWord (zws yX5_takeWord cX5_takeWord 3 (some .boolean)) r_X5_takeWord (va_Pc [.ref (q0 0), .ref a1] (zPre Z E (k_X5 E q0 u0) sz)) (va_Qi post (zAt E (va_A (k_X5 E q0 u0) sz) (fun u => k_X5 E q0 u)) (va_A (k_X5 E q0 u0) sz)) 0 0 (va_A (k_X5 E q0 u0) sz) := by
  refine z_ofW (Qf := fun A => va_Qi post (zAt E A (fun u => k_X5 E q0 u)) A) (by decide) (Nat.le_of_ble_eq_true rfl) ?_
  intro p e s m args below meth c A ls C0 hA hK hZ hP hD hS hl
  obtain ⟨hx, hb, hml, hr, hown, hts, hlocks, hin⟩ := id C0
  have hown : s.vm.findClass RX5 = some m.cls := hown
  have hl : lv_has ls 3 [(0, .ref (q0 0)), (1, .ref a1)] := hl
  refine lv_aload_n hx hb dX5_takeWord_0 rfl (lv_at hl 0 rfl) ?_
  refine lv_aload_n hx hb dX5_takeWord_1 rfl (lv_at hl 1 rfl) ?_
  refine z_ki (z_rV (rest := []) hZ0 C0 hK hZ hA hP hD hS hl.1 (c_X5_isWord l E Z hZ0 a1 b1 hb1 hs1 q0 s.heap.size u0 _ hw) yv_X5_58 [0, 1] rfl (by decide) (ci := 5) rfl rfl 0 rfl ⟨Nat.le_of_ble_eq_true rfl, Nat.le_of_ble_eq_true rfl⟩ ⟨rfl, rfl⟩ rfl rfl (Nat.le_of_ble_eq_true rfl) ⟨Nat.le_of_ble_eq_true rfl, Nat.le_of_ble_eq_true rfl⟩ dX5_takeWord_2) hP hD hS hA [0, 1] [] [0, 1] rfl (wr := []) rfl (by decide) (by decide) (fun u => k_X5 E q0 u) (fun u => rfl) (by decide) (fun r_2 u_1 H locs hw hP hD hS => ?_)
  refine lv_istore_n (lv' := [(2, .int r_2), (0, .ref (q0 0)), (1, .ref a1)]) hx hb dX5_takeWord_5 rfl hl (by decide) rfl (fun ls hl => ?_)
  refine lv_iload_n hx hb dX5_takeWord_6 rfl (lv_at hl 0 rfl) ?_
  obtain ⟨hwt, hwf⟩ := hw
  refine lv_if_eq (tgt := 14) hx hb dX5_takeWord_7 (by decide) (fun c_3 => ?_) (fun c_3 => ?_)
  · have hw := hwt c_3
    refine lv_iload_n hx hb dX5_takeWord_14 rfl (lv_at hl 0 rfl) ?_
    obtain ⟨h_4, hw⟩ := hw
    exact z_zret (k := (fun u => k_X5 E q0 u)) u_1 C0 h_4 hP hD hS hw dX5_takeWord_15
  · have hw := hwf c_3
    refine lv_aload_n hx hb dX5_takeWord_10 rfl (lv_at hl 1 rfl) ?_
    refine z_kv (z_rV (rest := []) hZ0 C0 hK hZ hA hP hD hS hl.1 (c_X5_advance l E Z hZ0 q0 H.size u_1 _ hw) yv_X5_44 [0, 1] rfl (by decide) (ci := 5) rfl rfl 0 rfl ⟨Nat.le_of_ble_eq_true rfl, Nat.le_of_ble_eq_true rfl⟩ ⟨rfl, rfl⟩ rfl rfl (Nat.le_of_ble_eq_true rfl) ⟨Nat.le_of_ble_eq_true rfl, Nat.le_of_ble_eq_true rfl⟩ dX5_takeWord_11) hP hD hS hA [0, 1] [] [0, 1] rfl (wr := []) rfl (by decide) (by decide) (fun u => k_X5 E q0 u) (fun u => rfl) (by decide) (fun u_5 H locs hw hP hD hS => ?_)
    refine lv_iload_n hx hb dX5_takeWord_14 rfl (lv_at hl 0 rfl) ?_
    obtain ⟨h_7, hw⟩ := hw
    exact z_zret (k := (fun u => k_X5 E q0 u)) u_5 C0 h_7 hP hD hS hw dX5_takeWord_15
