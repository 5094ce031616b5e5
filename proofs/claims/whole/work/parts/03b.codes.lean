/-! each method's code is the tables' -/
def hd_kok (y : Nat) : Prop := Cond.code (hd_nm y) (hd_cd y) (hd_mx y) (hd_rt y) ∈ lw_tbl
theorem hd_k0 : hd_kok 0 := List.mem_of_getElem? (i := (hd_mp 0).1) (by decide +kernel)
theorem hd_k1 : hd_kok 1 := List.mem_of_getElem? (i := (hd_mp 1).1) (by decide +kernel)
theorem hd_k2 : hd_kok 2 := List.mem_of_getElem? (i := (hd_mp 2).1) (by decide +kernel)
theorem hd_k3 : hd_kok 3 := List.mem_of_getElem? (i := (hd_mp 3).1) (by decide +kernel)
theorem hd_k4 : hd_kok 4 := List.mem_of_getElem? (i := (hd_mp 4).1) (by decide +kernel)
theorem hd_k5 : hd_kok 5 := List.mem_of_getElem? (i := (hd_mp 5).1) (by decide +kernel)
theorem hd_k6 : hd_kok 6 := List.mem_of_getElem? (i := (hd_mp 6).1) (by decide +kernel)
theorem hd_k7 : hd_kok 7 := List.mem_of_getElem? (i := (hd_mp 7).1) (by decide +kernel)
theorem hd_k8 : hd_kok 8 := List.mem_of_getElem? (i := (hd_mp 8).1) (by decide +kernel)
theorem hd_k9 : hd_kok 9 := List.mem_of_getElem? (i := (hd_mp 9).1) (by decide +kernel)
theorem hd_k10 : hd_kok 10 := List.mem_of_getElem? (i := (hd_mp 10).1) (by decide +kernel)
theorem hd_k11 : hd_kok 11 := List.mem_of_getElem? (i := (hd_mp 11).1) (by decide +kernel)
theorem hd_k12 : hd_kok 12 := List.mem_of_getElem? (i := (hd_mp 12).1) (by decide +kernel)
theorem hd_k13 : hd_kok 13 := List.mem_of_getElem? (i := (hd_mp 13).1) (by decide +kernel)
theorem hd_k14 : hd_kok 14 := List.mem_of_getElem? (i := (hd_mp 14).1) (by decide +kernel)
theorem hd_k15 : hd_kok 15 := List.mem_of_getElem? (i := (hd_mp 15).1) (by decide +kernel)
theorem hd_k16 : hd_kok 16 := List.mem_of_getElem? (i := (hd_mp 16).1) (by decide +kernel)
theorem hd_k17 : hd_kok 17 := List.mem_of_getElem? (i := (hd_mp 17).1) (by decide +kernel)
theorem hd_k18 : hd_kok 18 := List.mem_of_getElem? (i := (hd_mp 18).1) (by decide +kernel)
theorem hd_k19 : hd_kok 19 := List.mem_of_getElem? (i := (hd_mp 19).1) (by decide +kernel)
theorem hd_k20 : hd_kok 20 := List.mem_of_getElem? (i := (hd_mp 20).1) (by decide +kernel)
theorem hd_k21 : hd_kok 21 := List.mem_of_getElem? (i := (hd_mp 21).1) (by decide +kernel)
theorem hd_k22 : hd_kok 22 := List.mem_of_getElem? (i := (hd_mp 22).1) (by decide +kernel)
theorem hd_k23 : hd_kok 23 := List.mem_of_getElem? (i := (hd_mp 23).1) (by decide +kernel)
theorem hd_k24 : hd_kok 24 := List.mem_of_getElem? (i := (hd_mp 24).1) (by decide +kernel)
theorem hd_k25 : hd_kok 25 := List.mem_of_getElem? (i := (hd_mp 25).1) (by decide +kernel)
theorem hd_k26 : hd_kok 26 := List.mem_of_getElem? (i := (hd_mp 26).1) (by decide +kernel)
theorem hd_k27 : hd_kok 27 := List.mem_of_getElem? (i := (hd_mp 27).1) (by decide +kernel)
theorem hd_k28 : hd_kok 28 := List.mem_of_getElem? (i := (hd_mp 28).1) (by decide +kernel)
theorem hd_k29 : hd_kok 29 := List.mem_of_getElem? (i := (hd_mp 29).1) (by decide +kernel)
theorem hd_k30 : hd_kok 30 := List.mem_of_getElem? (i := (hd_mp 30).1) (by decide +kernel)
theorem hd_k31 : hd_kok 31 := List.mem_of_getElem? (i := (hd_mp 31).1) (by decide +kernel)
theorem hd_k32 : hd_kok 32 := List.mem_of_getElem? (i := (hd_mp 32).1) (by decide +kernel)
theorem hd_k33 : hd_kok 33 := List.mem_of_getElem? (i := (hd_mp 33).1) (by decide +kernel)
theorem hd_k34 : hd_kok 34 := List.mem_of_getElem? (i := (hd_mp 34).1) (by decide +kernel)
theorem hd_k35 : hd_kok 35 := List.mem_of_getElem? (i := (hd_mp 35).1) (by decide +kernel)
theorem hd_k36 : hd_kok 36 := List.mem_of_getElem? (i := (hd_mp 36).1) (by decide +kernel)
theorem hd_k37 : hd_kok 37 := List.mem_of_getElem? (i := (hd_mp 37).1) (by decide +kernel)
theorem hd_k38 : hd_kok 38 := List.mem_of_getElem? (i := (hd_mp 38).1) (by decide +kernel)
theorem hd_k39 : hd_kok 39 := List.mem_of_getElem? (i := (hd_mp 39).1) (by decide +kernel)
theorem hd_k40 : hd_kok 40 := List.mem_of_getElem? (i := (hd_mp 40).1) (by decide +kernel)
theorem hd_k41 : hd_kok 41 := List.mem_of_getElem? (i := (hd_mp 41).1) (by decide +kernel)
theorem hd_k42 : hd_kok 42 := List.mem_of_getElem? (i := (hd_mp 42).1) (by decide +kernel)
theorem hd_k43 : hd_kok 43 := List.mem_of_getElem? (i := (hd_mp 43).1) (by decide +kernel)
theorem hd_k44 : hd_kok 44 := List.mem_of_getElem? (i := (hd_mp 44).1) (by decide +kernel)
theorem hd_k45 : hd_kok 45 := List.mem_of_getElem? (i := (hd_mp 45).1) (by decide +kernel)
theorem hd_k46 : hd_kok 46 := List.mem_of_getElem? (i := (hd_mp 46).1) (by decide +kernel)
theorem hd_k47 : hd_kok 47 := List.mem_of_getElem? (i := (hd_mp 47).1) (by decide +kernel)
theorem hd_k48 : hd_kok 48 := List.mem_of_getElem? (i := (hd_mp 48).1) (by decide +kernel)
theorem hd_k49 : hd_kok 49 := List.mem_of_getElem? (i := (hd_mp 49).1) (by decide +kernel)
theorem hd_k50 : hd_kok 50 := List.mem_of_getElem? (i := (hd_mp 50).1) (by decide +kernel)
theorem hd_k51 : hd_kok 51 := List.mem_of_getElem? (i := (hd_mp 51).1) (by decide +kernel)
theorem hd_k52 : hd_kok 52 := List.mem_of_getElem? (i := (hd_mp 52).1) (by decide +kernel)
theorem hd_k53 : hd_kok 53 := List.mem_of_getElem? (i := (hd_mp 53).1) (by decide +kernel)
theorem hd_k54 : hd_kok 54 := List.mem_of_getElem? (i := (hd_mp 54).1) (by decide +kernel)
theorem hd_k55 : hd_kok 55 := List.mem_of_getElem? (i := (hd_mp 55).1) (by decide +kernel)
theorem hd_k56 : hd_kok 56 := List.mem_of_getElem? (i := (hd_mp 56).1) (by decide +kernel)
theorem hd_k57 : hd_kok 57 := List.mem_of_getElem? (i := (hd_mp 57).1) (by decide +kernel)
theorem hd_k58 : hd_kok 58 := List.mem_of_getElem? (i := (hd_mp 58).1) (by decide +kernel)
theorem hd_k59 : hd_kok 59 := List.mem_of_getElem? (i := (hd_mp 59).1) (by decide +kernel)
theorem hd_k60 : hd_kok 60 := List.mem_of_getElem? (i := (hd_mp 60).1) (by decide +kernel)
theorem hd_k61 : hd_kok 61 := List.mem_of_getElem? (i := (hd_mp 61).1) (by decide +kernel)
theorem hd_k62 : hd_kok 62 := List.mem_of_getElem? (i := (hd_mp 62).1) (by decide +kernel)
theorem hd_k63 : hd_kok 63 := List.mem_of_getElem? (i := (hd_mp 63).1) (by decide +kernel)
theorem hd_k64 : hd_kok 64 := List.mem_of_getElem? (i := (hd_mp 64).1) (by decide +kernel)
theorem hd_k65 : hd_kok 65 := List.mem_of_getElem? (i := (hd_mp 65).1) (by decide +kernel)
theorem hd_k66 : hd_kok 66 := List.mem_of_getElem? (i := (hd_mp 66).1) (by decide +kernel)
theorem hd_k67 : hd_kok 67 := List.mem_of_getElem? (i := (hd_mp 67).1) (by decide +kernel)
theorem hd_k68 : hd_kok 68 := List.mem_of_getElem? (i := (hd_mp 68).1) (by decide +kernel)
theorem hd_k69 : hd_kok 69 := List.mem_of_getElem? (i := (hd_mp 69).1) (by decide +kernel)
theorem hd_k70 : hd_kok 70 := List.mem_of_getElem? (i := (hd_mp 70).1) (by decide +kernel)
theorem hd_k71 : hd_kok 71 := List.mem_of_getElem? (i := (hd_mp 71).1) (by decide +kernel)
theorem hd_k72 : hd_kok 72 := List.mem_of_getElem? (i := (hd_mp 72).1) (by decide +kernel)
theorem hd_k73 : hd_kok 73 := List.mem_of_getElem? (i := (hd_mp 73).1) (by decide +kernel)
theorem hd_k74 : hd_kok 74 := List.mem_of_getElem? (i := (hd_mp 74).1) (by decide +kernel)
theorem hd_k75 : hd_kok 75 := List.mem_of_getElem? (i := (hd_mp 75).1) (by decide +kernel)
theorem hd_k76 : hd_kok 76 := List.mem_of_getElem? (i := (hd_mp 76).1) (by decide +kernel)
theorem hd_k77 : hd_kok 77 := List.mem_of_getElem? (i := (hd_mp 77).1) (by decide +kernel)
theorem hd_k78 : hd_kok 78 := List.mem_of_getElem? (i := (hd_mp 78).1) (by decide +kernel)
theorem hd_k79 : hd_kok 79 := List.mem_of_getElem? (i := (hd_mp 79).1) (by decide +kernel)
theorem hd_k80 : hd_kok 80 := List.mem_of_getElem? (i := (hd_mp 80).1) (by decide +kernel)
theorem hd_k81 : hd_kok 81 := List.mem_of_getElem? (i := (hd_mp 81).1) (by decide +kernel)
theorem hd_k82 : hd_kok 82 := List.mem_of_getElem? (i := (hd_mp 82).1) (by decide +kernel)
theorem hd_k83 : hd_kok 83 := List.mem_of_getElem? (i := (hd_mp 83).1) (by decide +kernel)
theorem hd_k84 : hd_kok 84 := List.mem_of_getElem? (i := (hd_mp 84).1) (by decide +kernel)
theorem hd_k85 : hd_kok 85 := List.mem_of_getElem? (i := (hd_mp 85).1) (by decide +kernel)
theorem hd_k86 : hd_kok 86 := List.mem_of_getElem? (i := (hd_mp 86).1) (by decide +kernel)
theorem hd_k87 : hd_kok 87 := List.mem_of_getElem? (i := (hd_mp 87).1) (by decide +kernel)
theorem hd_k88 : hd_kok 88 := List.mem_of_getElem? (i := (hd_mp 88).1) (by decide +kernel)
theorem hd_k89 : hd_kok 89 := List.mem_of_getElem? (i := (hd_mp 89).1) (by decide +kernel)
theorem hd_k90 : hd_kok 90 := List.mem_of_getElem? (i := (hd_mp 90).1) (by decide +kernel)
theorem hd_k91 : hd_kok 91 := List.mem_of_getElem? (i := (hd_mp 91).1) (by decide +kernel)
theorem hd_k92 : hd_kok 92 := List.mem_of_getElem? (i := (hd_mp 92).1) (by decide +kernel)
theorem hd_k93 : hd_kok 93 := List.mem_of_getElem? (i := (hd_mp 93).1) (by decide +kernel)
theorem hd_k94 : hd_kok 94 := List.mem_of_getElem? (i := (hd_mp 94).1) (by decide +kernel)
theorem hd_k95 : hd_kok 95 := List.mem_of_getElem? (i := (hd_mp 95).1) (by decide +kernel)
theorem hd_k96 : hd_kok 96 := List.mem_of_getElem? (i := (hd_mp 96).1) (by decide +kernel)
theorem hd_k97 : hd_kok 97 := List.mem_of_getElem? (i := (hd_mp 97).1) (by decide +kernel)
theorem hd_k98 : hd_kok 98 := List.mem_of_getElem? (i := (hd_mp 98).1) (by decide +kernel)
theorem hd_k99 : hd_kok 99 := List.mem_of_getElem? (i := (hd_mp 99).1) (by decide +kernel)
theorem hd_k100 : hd_kok 100 := List.mem_of_getElem? (i := (hd_mp 100).1) (by decide +kernel)
theorem hd_k101 : hd_kok 101 := List.mem_of_getElem? (i := (hd_mp 101).1) (by decide +kernel)
theorem hd_k102 : hd_kok 102 := List.mem_of_getElem? (i := (hd_mp 102).1) (by decide +kernel)
theorem hd_k103 : hd_kok 103 := List.mem_of_getElem? (i := (hd_mp 103).1) (by decide +kernel)
theorem hd_k104 : hd_kok 104 := List.mem_of_getElem? (i := (hd_mp 104).1) (by decide +kernel)
theorem hd_k105 : hd_kok 105 := List.mem_of_getElem? (i := (hd_mp 105).1) (by decide +kernel)
theorem hd_k106 : hd_kok 106 := List.mem_of_getElem? (i := (hd_mp 106).1) (by decide +kernel)
theorem hd_k107 : hd_kok 107 := List.mem_of_getElem? (i := (hd_mp 107).1) (by decide +kernel)
theorem hd_k108 : hd_kok 108 := List.mem_of_getElem? (i := (hd_mp 108).1) (by decide +kernel)
theorem hd_k109 : hd_kok 109 := List.mem_of_getElem? (i := (hd_mp 109).1) (by decide +kernel)
theorem hd_k110 : hd_kok 110 := List.mem_of_getElem? (i := (hd_mp 110).1) (by decide +kernel)
theorem hd_k111 : hd_kok 111 := List.mem_of_getElem? (i := (hd_mp 111).1) (by decide +kernel)
theorem hd_k112 : hd_kok 112 := List.mem_of_getElem? (i := (hd_mp 112).1) (by decide +kernel)
theorem hd_k113 : hd_kok 113 := List.mem_of_getElem? (i := (hd_mp 113).1) (by decide +kernel)
theorem hd_k114 : hd_kok 114 := List.mem_of_getElem? (i := (hd_mp 114).1) (by decide +kernel)
theorem hd_k115 : hd_kok 115 := List.mem_of_getElem? (i := (hd_mp 115).1) (by decide +kernel)
theorem hd_k116 : hd_kok 116 := List.mem_of_getElem? (i := (hd_mp 116).1) (by decide +kernel)
theorem hd_k117 : hd_kok 117 := List.mem_of_getElem? (i := (hd_mp 117).1) (by decide +kernel)
theorem hd_k118 : hd_kok 118 := List.mem_of_getElem? (i := (hd_mp 118).1) (by decide +kernel)
theorem hd_k119 : hd_kok 119 := List.mem_of_getElem? (i := (hd_mp 119).1) (by decide +kernel)
theorem hd_k120 : hd_kok 120 := List.mem_of_getElem? (i := (hd_mp 120).1) (by decide +kernel)
theorem hd_k121 : hd_kok 121 := List.mem_of_getElem? (i := (hd_mp 121).1) (by decide +kernel)
theorem hd_k122 : hd_kok 122 := List.mem_of_getElem? (i := (hd_mp 122).1) (by decide +kernel)
theorem hd_k123 : hd_kok 123 := List.mem_of_getElem? (i := (hd_mp 123).1) (by decide +kernel)
theorem hd_k124 : hd_kok 124 := List.mem_of_getElem? (i := (hd_mp 124).1) (by decide +kernel)
theorem hd_k125 : hd_kok 125 := List.mem_of_getElem? (i := (hd_mp 125).1) (by decide +kernel)
theorem hd_k126 : hd_kok 126 := List.mem_of_getElem? (i := (hd_mp 126).1) (by decide +kernel)
theorem hd_k127 : hd_kok 127 := List.mem_of_getElem? (i := (hd_mp 127).1) (by decide +kernel)
theorem hd_k128 : hd_kok 128 := List.mem_of_getElem? (i := (hd_mp 128).1) (by decide +kernel)
theorem hd_k129 : hd_kok 129 := List.mem_of_getElem? (i := (hd_mp 129).1) (by decide +kernel)
theorem hd_k130 : hd_kok 130 := List.mem_of_getElem? (i := (hd_mp 130).1) (by decide +kernel)
theorem hd_k131 : hd_kok 131 := List.mem_of_getElem? (i := (hd_mp 131).1) (by decide +kernel)
theorem hd_k132 : hd_kok 132 := List.mem_of_getElem? (i := (hd_mp 132).1) (by decide +kernel)
theorem hd_k133 : hd_kok 133 := List.mem_of_getElem? (i := (hd_mp 133).1) (by decide +kernel)
theorem hd_k134 : hd_kok 134 := List.mem_of_getElem? (i := (hd_mp 134).1) (by decide +kernel)
theorem hd_k135 : hd_kok 135 := List.mem_of_getElem? (i := (hd_mp 135).1) (by decide +kernel)
theorem hd_k136 : hd_kok 136 := List.mem_of_getElem? (i := (hd_mp 136).1) (by decide +kernel)
theorem hd_k137 : hd_kok 137 := List.mem_of_getElem? (i := (hd_mp 137).1) (by decide +kernel)
theorem hd_k138 : hd_kok 138 := List.mem_of_getElem? (i := (hd_mp 138).1) (by decide +kernel)
theorem hd_code_ok : ∀ y, y < 139 → hd_kok y := by
  intro y h
  match y, h with
  | 0, _ => exact hd_k0
  | 1, _ => exact hd_k1
  | 2, _ => exact hd_k2
  | 3, _ => exact hd_k3
  | 4, _ => exact hd_k4
  | 5, _ => exact hd_k5
  | 6, _ => exact hd_k6
  | 7, _ => exact hd_k7
  | 8, _ => exact hd_k8
  | 9, _ => exact hd_k9
  | 10, _ => exact hd_k10
  | 11, _ => exact hd_k11
  | 12, _ => exact hd_k12
  | 13, _ => exact hd_k13
  | 14, _ => exact hd_k14
  | 15, _ => exact hd_k15
  | 16, _ => exact hd_k16
  | 17, _ => exact hd_k17
  | 18, _ => exact hd_k18
  | 19, _ => exact hd_k19
  | 20, _ => exact hd_k20
  | 21, _ => exact hd_k21
  | 22, _ => exact hd_k22
  | 23, _ => exact hd_k23
  | 24, _ => exact hd_k24
  | 25, _ => exact hd_k25
  | 26, _ => exact hd_k26
  | 27, _ => exact hd_k27
  | 28, _ => exact hd_k28
  | 29, _ => exact hd_k29
  | 30, _ => exact hd_k30
  | 31, _ => exact hd_k31
  | 32, _ => exact hd_k32
  | 33, _ => exact hd_k33
  | 34, _ => exact hd_k34
  | 35, _ => exact hd_k35
  | 36, _ => exact hd_k36
  | 37, _ => exact hd_k37
  | 38, _ => exact hd_k38
  | 39, _ => exact hd_k39
  | 40, _ => exact hd_k40
  | 41, _ => exact hd_k41
  | 42, _ => exact hd_k42
  | 43, _ => exact hd_k43
  | 44, _ => exact hd_k44
  | 45, _ => exact hd_k45
  | 46, _ => exact hd_k46
  | 47, _ => exact hd_k47
  | 48, _ => exact hd_k48
  | 49, _ => exact hd_k49
  | 50, _ => exact hd_k50
  | 51, _ => exact hd_k51
  | 52, _ => exact hd_k52
  | 53, _ => exact hd_k53
  | 54, _ => exact hd_k54
  | 55, _ => exact hd_k55
  | 56, _ => exact hd_k56
  | 57, _ => exact hd_k57
  | 58, _ => exact hd_k58
  | 59, _ => exact hd_k59
  | 60, _ => exact hd_k60
  | 61, _ => exact hd_k61
  | 62, _ => exact hd_k62
  | 63, _ => exact hd_k63
  | 64, _ => exact hd_k64
  | 65, _ => exact hd_k65
  | 66, _ => exact hd_k66
  | 67, _ => exact hd_k67
  | 68, _ => exact hd_k68
  | 69, _ => exact hd_k69
  | 70, _ => exact hd_k70
  | 71, _ => exact hd_k71
  | 72, _ => exact hd_k72
  | 73, _ => exact hd_k73
  | 74, _ => exact hd_k74
  | 75, _ => exact hd_k75
  | 76, _ => exact hd_k76
  | 77, _ => exact hd_k77
  | 78, _ => exact hd_k78
  | 79, _ => exact hd_k79
  | 80, _ => exact hd_k80
  | 81, _ => exact hd_k81
  | 82, _ => exact hd_k82
  | 83, _ => exact hd_k83
  | 84, _ => exact hd_k84
  | 85, _ => exact hd_k85
  | 86, _ => exact hd_k86
  | 87, _ => exact hd_k87
  | 88, _ => exact hd_k88
  | 89, _ => exact hd_k89
  | 90, _ => exact hd_k90
  | 91, _ => exact hd_k91
  | 92, _ => exact hd_k92
  | 93, _ => exact hd_k93
  | 94, _ => exact hd_k94
  | 95, _ => exact hd_k95
  | 96, _ => exact hd_k96
  | 97, _ => exact hd_k97
  | 98, _ => exact hd_k98
  | 99, _ => exact hd_k99
  | 100, _ => exact hd_k100
  | 101, _ => exact hd_k101
  | 102, _ => exact hd_k102
  | 103, _ => exact hd_k103
  | 104, _ => exact hd_k104
  | 105, _ => exact hd_k105
  | 106, _ => exact hd_k106
  | 107, _ => exact hd_k107
  | 108, _ => exact hd_k108
  | 109, _ => exact hd_k109
  | 110, _ => exact hd_k110
  | 111, _ => exact hd_k111
  | 112, _ => exact hd_k112
  | 113, _ => exact hd_k113
  | 114, _ => exact hd_k114
  | 115, _ => exact hd_k115
  | 116, _ => exact hd_k116
  | 117, _ => exact hd_k117
  | 118, _ => exact hd_k118
  | 119, _ => exact hd_k119
  | 120, _ => exact hd_k120
  | 121, _ => exact hd_k121
  | 122, _ => exact hd_k122
  | 123, _ => exact hd_k123
  | 124, _ => exact hd_k124
  | 125, _ => exact hd_k125
  | 126, _ => exact hd_k126
  | 127, _ => exact hd_k127
  | 128, _ => exact hd_k128
  | 129, _ => exact hd_k129
  | 130, _ => exact hd_k130
  | 131, _ => exact hd_k131
  | 132, _ => exact hd_k132
  | 133, _ => exact hd_k133
  | 134, _ => exact hd_k134
  | 135, _ => exact hd_k135
  | 136, _ => exact hd_k136
  | 137, _ => exact hd_k137
  | 138, _ => exact hd_k138
  | n + 139, h => exact absurd h (by omega)
