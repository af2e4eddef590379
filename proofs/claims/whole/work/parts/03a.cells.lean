def kdL : List Nat := [19, 15, 160, 20001, 17, 116, 116, 116, 116, 116, 116, 160, 12, 103, 116, 116, 10289, 10289, 10289, 10289, 13, 116, 116, 116, 116, 10, 108, 108, 16, 20002, 20003, 108, 17, 116, 116, 116, 116, 116, 116, 17, 116, 116, 116, 116, 116, 116, 17, 116, 116, 116, 116, 116, 116, 17, 116, 116, 116, 116, 116, 116, 17, 116, 116, 116, 116, 116, 116, 17, 116, 116, 116, 116, 116, 116, 17, 116, 116, 116, 116, 116, 116, 17, 116, 116, 116, 116, 116, 116, 17, 116, 116, 116, 116, 116, 116, 17, 116, 116, 116, 116, 116, 116, 17, 116, 116, 116, 116, 116, 116, 17, 116, 116, 116, 116, 116, 116, 17, 116, 116, 116, 116, 116, 116, 18, 116, 201, 1716, 14, 104, 11, 132, 132, 132, 132, 148, 148, 148, 196, 196, 148, 17, 116, 116, 116, 116, 116, 116, 17, 116, 116, 116, 116, 116, 116, 17, 116, 116, 116, 116, 116, 116, 17, 116, 116, 116, 116, 116, 116, 17, 116, 116, 116, 116, 116, 116, 17, 116, 116, 116, 116, 116, 116, 17, 116, 116, 116, 116, 116, 116, 17, 116, 116, 116, 116, 116, 116, 17, 116, 116, 116, 116, 116, 116, 20, 121, 772, 772, 160, 103, 164, 116, 116, 117, 117, 356, 116, 117, 117, 389, 389, 116, 116, 116, 116, 164, 164, 116, 116, 108, 201, 1716, 1716, 116, 228, 228, 356]
def kd (k : Nat) : Nat := kdL.getD k 0
abbrev nCells : Nat := 236
def nfl (ci : Nat) : Nat := match ci with
  | 0 => 3
  | 1 => 11
  | 2 => 12
  | 3 => 6
  | 4 => 9
  | 5 => 2
  | 6 => 5
  | 7 => 7
  | 8 => 7
  | 9 => 13
  | 10 => 44
  | _ => 0
def sfl (ci j : Nat) : Int → Nat × Int := match ci, j with
  | 0, 1 => fun _ => (108, 26)
  | 0, 2 => fun _ => (108, 27)
  | 1, 0 => fun _ => (132, 130)
  | 1, 1 => fun _ => (132, 131)
  | 1, 2 => fun _ => (132, 132)
  | 1, 3 => fun _ => (132, 133)
  | 1, 4 => fun _ => (148, 134)
  | 1, 5 => fun _ => (148, 135)
  | 1, 6 => fun _ => (148, 136)
  | 1, 7 => fun _ => (196, 137)
  | 1, 8 => fun _ => (196, 138)
  | 1, 10 => fun _ => (148, 139)
  | 2, 0 => fun _ => (103, 13)
  | 2, 1 => fun _ => (116, 14)
  | 2, 2 => fun _ => (116, 15)
  | 2, 6 => fun _ => (10289, 16)
  | 2, 7 => fun _ => (10289, 17)
  | 2, 8 => fun _ => (10289, 18)
  | 2, 9 => fun _ => (10289, 19)
  | 3, 2 => fun _ => (116, 21)
  | 3, 3 => fun _ => (116, 22)
  | 3, 4 => fun _ => (116, 23)
  | 3, 5 => fun _ => (116, 24)
  | 4, 1 => fun _ => (104, 128)
  | 4, 2 => fun _ => (16, 28)
  | 4, 3 => fun _ => (18, 123)
  | 4, 4 => fun _ => (11, 129)
  | 4, 5 => fun _ => (17, 140)
  | 4, 7 => fun _ => (17, 147)
  | 4, 8 => fun _ => (17, 154)
  | 5, 1 => fun _ => (160, 2)
  | 6, 1 => fun _ => (20002, 29)
  | 6, 2 => fun _ => (20003, 30)
  | 6, 3 => fun _ => (108, 31)
  | 6, 4 => fun _ => (17, 32)
  | 7, 1 => fun k => (116, k + 1)
  | 7, 2 => fun k => (116, k + 2)
  | 7, 3 => fun k => (116, k + 3)
  | 7, 4 => fun k => (116, k + 4)
  | 7, 5 => fun k => (116, k + 5)
  | 7, 6 => fun k => (116, k + 6)
  | 8, 1 => fun _ => (16, 28)
  | 8, 2 => fun _ => (116, 124)
  | 8, 3 => fun _ => (201, 125)
  | 8, 4 => fun _ => (1716, 126)
  | 9, 0 => fun _ => (15, 1)
  | 9, 1 => fun _ => (20001, 3)
  | 9, 2 => fun _ => (17, 4)
  | 9, 3 => fun _ => (160, 11)
  | 9, 4 => fun _ => (12, 12)
  | 9, 5 => fun _ => (13, 20)
  | 9, 6 => fun _ => (10, 25)
  | 9, 7 => fun _ => (16, 28)
  | 9, 8 => fun _ => (18, 123)
  | 9, 9 => fun _ => (14, 127)
  | 10, 0 => fun _ => (121, 204)
  | 10, 1 => fun _ => (772, 205)
  | 10, 2 => fun _ => (772, 206)
  | 10, 4 => fun _ => (160, 207)
  | 10, 6 => fun _ => (103, 208)
  | 10, 9 => fun _ => (164, 209)
  | 10, 12 => fun _ => (116, 210)
  | 10, 13 => fun _ => (116, 211)
  | 10, 14 => fun _ => (117, 212)
  | 10, 15 => fun _ => (117, 213)
  | 10, 16 => fun _ => (356, 214)
  | 10, 17 => fun _ => (116, 215)
  | 10, 18 => fun _ => (117, 216)
  | 10, 19 => fun _ => (117, 217)
  | 10, 20 => fun _ => (389, 218)
  | 10, 21 => fun _ => (389, 219)
  | 10, 22 => fun _ => (116, 220)
  | 10, 23 => fun _ => (116, 221)
  | 10, 25 => fun _ => (116, 222)
  | 10, 26 => fun _ => (116, 223)
  | 10, 28 => fun _ => (164, 224)
  | 10, 29 => fun _ => (164, 225)
  | 10, 30 => fun _ => (116, 226)
  | 10, 31 => fun _ => (116, 227)
  | 10, 32 => fun _ => (108, 228)
  | 10, 34 => fun _ => (201, 229)
  | 10, 35 => fun _ => (1716, 230)
  | 10, 36 => fun _ => (1716, 231)
  | 10, 40 => fun _ => (116, 232)
  | 10, 41 => fun _ => (228, 233)
  | 10, 42 => fun _ => (228, 234)
  | 10, 43 => fun _ => (356, 235)
  | _, _ => fun _ => (99, 0)
def fk (ci j : Nat) : Nat := match ci, j with
  | 0, 0 => 0
  | 0, 1 => 3
  | 0, 2 => 3
  | 1, 0 => 3
  | 1, 1 => 3
  | 1, 2 => 3
  | 1, 3 => 3
  | 1, 4 => 3
  | 1, 5 => 3
  | 1, 6 => 3
  | 1, 7 => 3
  | 1, 8 => 3
  | 1, 9 => 0
  | 1, 10 => 3
  | 2, 0 => 3
  | 2, 1 => 3
  | 2, 2 => 3
  | 2, 3 => 0
  | 2, 4 => 0
  | 2, 5 => 0
  | 2, 6 => 3
  | 2, 7 => 3
  | 2, 8 => 3
  | 2, 9 => 3
  | 2, 10 => 1
  | 2, 11 => 1
  | 3, 0 => 0
  | 3, 1 => 0
  | 3, 2 => 3
  | 3, 3 => 3
  | 3, 4 => 3
  | 3, 5 => 3
  | 4, 0 => 2
  | 4, 1 => 3
  | 4, 2 => 3
  | 4, 3 => 3
  | 4, 4 => 3
  | 4, 5 => 3
  | 4, 6 => 0
  | 4, 7 => 3
  | 4, 8 => 3
  | 5, 0 => 0
  | 5, 1 => 3
  | 6, 0 => 0
  | 6, 1 => 3
  | 6, 2 => 3
  | 6, 3 => 3
  | 6, 4 => 3
  | 7, 0 => 0
  | 7, 1 => 3
  | 7, 2 => 3
  | 7, 3 => 3
  | 7, 4 => 3
  | 7, 5 => 3
  | 7, 6 => 3
  | 8, 0 => 0
  | 8, 1 => 3
  | 8, 2 => 3
  | 8, 3 => 3
  | 8, 4 => 3
  | 8, 5 => 0
  | 8, 6 => 0
  | 9, 0 => 3
  | 9, 1 => 3
  | 9, 2 => 3
  | 9, 3 => 3
  | 9, 4 => 3
  | 9, 5 => 3
  | 9, 6 => 3
  | 9, 7 => 3
  | 9, 8 => 3
  | 9, 9 => 3
  | 9, 10 => 0
  | 9, 11 => 0
  | 9, 12 => 0
  | 10, 0 => 3
  | 10, 1 => 3
  | 10, 2 => 3
  | 10, 3 => 0
  | 10, 4 => 3
  | 10, 5 => 0
  | 10, 6 => 3
  | 10, 7 => 0
  | 10, 8 => 0
  | 10, 9 => 3
  | 10, 10 => 0
  | 10, 11 => 0
  | 10, 12 => 3
  | 10, 13 => 3
  | 10, 14 => 3
  | 10, 15 => 3
  | 10, 16 => 3
  | 10, 17 => 3
  | 10, 18 => 3
  | 10, 19 => 3
  | 10, 20 => 3
  | 10, 21 => 3
  | 10, 22 => 3
  | 10, 23 => 3
  | 10, 24 => 0
  | 10, 25 => 3
  | 10, 26 => 3
  | 10, 27 => 0
  | 10, 28 => 3
  | 10, 29 => 3
  | 10, 30 => 3
  | 10, 31 => 3
  | 10, 32 => 3
  | 10, 33 => 0
  | 10, 34 => 3
  | 10, 35 => 3
  | 10, 36 => 3
  | 10, 37 => 0
  | 10, 38 => 0
  | 10, 39 => 0
  | 10, 40 => 3
  | 10, 41 => 3
  | 10, 42 => 3
  | 10, 43 => 3
  | _, _ => 0
def tel (tg : Nat) : Int → Int := match tg with
  | 20001 => fun t => 161 + 7 * t
  | 20002 => fun t => 39 + 14 * t
  | 20003 => fun t => 46 + 14 * t
  | _ => fun _ => 0
abbrev nTel : Nat := 6
def isLa (k : Int) : Bool := k == 16 || k == 17 || k == 18 || k == 19
def isLk (k : Int) : Bool := k == 12
def isLo (k j : Int) : Bool := isLk k && ((k == 12 && j == 10) || (k == 12 && j == 11))
def isL (k j : Int) : Bool := isLa k || isLo k j
def treeL : List Int := [4, 32, 39, 46, 53, 60, 67, 74, 81, 88, 95, 102, 109, 116, 140, 147, 154, 161, 168, 175, 182, 189, 196]
abbrev treeC : String := "TreeHands$Tree"
def M0 : Int → Int → Int := fun k j => if k = 0 ∧ j = 10 then -6 else if k = 0 ∧ j = 11 then -1 else if k = 0 ∧ j = 12 then -1 else if k = 13 ∧ j = 0 then 3 else if k = 13 ∧ j = 1 then 3 else if k = 13 ∧ j = 2 then 2 else if k = 203 ∧ j = 7 then -6 else if k = 208 ∧ j = 0 then 3 else if k = 208 ∧ j = 1 then 3 else if k = 208 ∧ j = 2 then 2 else 0
set_option maxRecDepth 20000 in
theorem inX0 : ∀ w ∈ wsX00, w ∈ lw_tbl := by
  have h : wsX00 = [258, 260, 262].filterMap (fun i => lw_tbl[i]?) := rfl
  intro w hw
  rw [h] at hw
  obtain ⟨i, -, hi⟩ := List.mem_filterMap.mp hw
  exact List.mem_of_getElem? hi
set_option maxRecDepth 20000 in
theorem inX1 : ∀ w ∈ wsX10, w ∈ lw_tbl := by
  have h : wsX10 = [346, 348, 350, 352, 354, 356, 358, 360, 362, 364, 366].filterMap (fun i => lw_tbl[i]?) := rfl
  intro w hw
  rw [h] at hw
  obtain ⟨i, -, hi⟩ := List.mem_filterMap.mp hw
  exact List.mem_of_getElem? hi
set_option maxRecDepth 20000 in
theorem inX2 : ∀ w ∈ wsX20, w ∈ lw_tbl := by
  have h : wsX20 = [195, 197, 199, 201, 203, 205, 207, 209, 211, 213, 215, 217].filterMap (fun i => lw_tbl[i]?) := rfl
  intro w hw
  rw [h] at hw
  obtain ⟨i, -, hi⟩ := List.mem_filterMap.mp hw
  exact List.mem_of_getElem? hi
set_option maxRecDepth 20000 in
theorem inX3 : ∀ w ∈ wsX30, w ∈ lw_tbl := by
  have h : wsX30 = [235, 237, 239, 241, 243, 245].filterMap (fun i => lw_tbl[i]?) := rfl
  intro w hw
  rw [h] at hw
  obtain ⟨i, -, hi⟩ := List.mem_filterMap.mp hw
  exact List.mem_of_getElem? hi
set_option maxRecDepth 20000 in
theorem inX4 : ∀ w ∈ wsX40, w ∈ lw_tbl := by
  have h : wsX40 = [382, 384, 386, 388, 390, 392, 394, 396, 398].filterMap (fun i => lw_tbl[i]?) := rfl
  intro w hw
  rw [h] at hw
  obtain ⟨i, -, hi⟩ := List.mem_filterMap.mp hw
  exact List.mem_of_getElem? hi
set_option maxRecDepth 20000 in
theorem inX5 : ∀ w ∈ wsX50, w ∈ lw_tbl := by
  have h : wsX50 = [100, 102].filterMap (fun i => lw_tbl[i]?) := rfl
  intro w hw
  rw [h] at hw
  obtain ⟨i, -, hi⟩ := List.mem_filterMap.mp hw
  exact List.mem_of_getElem? hi
set_option maxRecDepth 20000 in
theorem inX6 : ∀ w ∈ wsX60, w ∈ lw_tbl := by
  have h : wsX60 = [283, 285, 287, 289, 291].filterMap (fun i => lw_tbl[i]?) := rfl
  intro w hw
  rw [h] at hw
  obtain ⟨i, -, hi⟩ := List.mem_filterMap.mp hw
  exact List.mem_of_getElem? hi
set_option maxRecDepth 20000 in
theorem inX7 : ∀ w ∈ wsX70, w ∈ lw_tbl := by
  have h : wsX70 = [156, 158, 160, 162, 164, 166, 168].filterMap (fun i => lw_tbl[i]?) := rfl
  intro w hw
  rw [h] at hw
  obtain ⟨i, -, hi⟩ := List.mem_filterMap.mp hw
  exact List.mem_of_getElem? hi
set_option maxRecDepth 20000 in
theorem inX8 : ∀ w ∈ wsX80, w ∈ lw_tbl := by
  have h : wsX80 = [308, 310, 312, 314, 316, 318, 320].filterMap (fun i => lw_tbl[i]?) := rfl
  intro w hw
  rw [h] at hw
  obtain ⟨i, -, hi⟩ := List.mem_filterMap.mp hw
  exact List.mem_of_getElem? hi
set_option maxRecDepth 20000 in
theorem inX9 : ∀ w ∈ wsX90, w ∈ lw_tbl := by
  have h : wsX90 = [414, 416, 418, 420, 422, 424, 426, 428, 430, 432, 434, 436, 438].filterMap (fun i => lw_tbl[i]?) := rfl
  intro w hw
  rw [h] at hw
  obtain ⟨i, -, hi⟩ := List.mem_filterMap.mp hw
  exact List.mem_of_getElem? hi
set_option maxRecDepth 20000 in
theorem inX10 : ∀ w ∈ wsX100, w ∈ lw_tbl := by
  have h : wsX100 = [906, 908, 910, 912, 914, 916, 918, 920, 922, 924, 926, 928, 930, 932, 934, 936, 938, 940, 942, 944, 946, 948, 950, 952, 954, 956, 958, 960, 962, 964, 966, 968, 970, 972, 974, 976, 978, 980, 982, 984, 986, 988, 990, 992].filterMap (fun i => lw_tbl[i]?) := rfl
  intro w hw
  rw [h] at hw
  obtain ⟨i, -, hi⟩ := List.mem_filterMap.mp hw
  exact List.mem_of_getElem? hi
