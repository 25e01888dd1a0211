theorem am_k101_0 : ∀ e ∈ (am_c101.drop 0).take 50, am_OK 101 e := by unfold am_OK; decide +kernel
theorem am_k101_1 : ∀ e ∈ (am_c101.drop 50).take 50, am_OK 101 e := by unfold am_OK; decide +kernel
theorem am_k101_2 : ∀ e ∈ (am_c101.drop 100).take 50, am_OK 101 e := by unfold am_OK; decide +kernel
theorem am_k101_3 : ∀ e ∈ (am_c101.drop 150).take 50, am_OK 101 e := by unfold am_OK; decide +kernel
theorem am_k101_4 : ∀ e ∈ (am_c101.drop 200).take 50, am_OK 101 e := by unfold am_OK; decide +kernel
theorem am_k101_5 : ∀ e ∈ (am_c101.drop 250).take 50, am_OK 101 e := by unfold am_OK; decide +kernel
theorem am_k101_6 : ∀ e ∈ (am_c101.drop 300).take 50, am_OK 101 e := by unfold am_OK; decide +kernel
theorem am_k101_7 : ∀ e ∈ (am_c101.drop 350).take 50, am_OK 101 e := by unfold am_OK; decide +kernel
theorem am_k101_8 : ∀ e ∈ (am_c101.drop 400).take 50, am_OK 101 e := by unfold am_OK; decide +kernel
theorem am_k101_9 : ∀ e ∈ (am_c101.drop 450).take 50, am_OK 101 e := by unfold am_OK; decide +kernel
theorem am_k101_10 : ∀ e ∈ (am_c101.drop 500).take 50, am_OK 101 e := by unfold am_OK; decide +kernel
theorem am_k101_11 : ∀ e ∈ (am_c101.drop 550).take 50, am_OK 101 e := by unfold am_OK; decide +kernel
set_option maxRecDepth 1000000 in
theorem am_k101 : ∀ e ∈ am_c101, am_OK 101 e := by
  intro e h
  rw [show am_c101 = (am_c101.drop 0).take 50 ++ (am_c101.drop 50).take 50 ++ (am_c101.drop 100).take 50 ++ (am_c101.drop 150).take 50 ++ (am_c101.drop 200).take 50 ++ (am_c101.drop 250).take 50 ++ (am_c101.drop 300).take 50 ++ (am_c101.drop 350).take 50 ++ (am_c101.drop 400).take 50 ++ (am_c101.drop 450).take 50 ++ (am_c101.drop 500).take 50 ++ (am_c101.drop 550).take 50 from rfl] at h
  simp only [List.mem_append] at h
  rcases h with (((((((((((h | h) | h) | h) | h) | h) | h) | h) | h) | h) | h) | h)
  · exact am_k101_0 e h
  · exact am_k101_1 e h
  · exact am_k101_2 e h
  · exact am_k101_3 e h
  · exact am_k101_4 e h
  · exact am_k101_5 e h
  · exact am_k101_6 e h
  · exact am_k101_7 e h
  · exact am_k101_8 e h
  · exact am_k101_9 e h
  · exact am_k101_10 e h
  · exact am_k101_11 e h
theorem am_okA (mid : Nat) (e : Nat × En) (h : e ∈ am_code mid) : am_OK mid e := by
  by_cases h0 : mid = 0
  · subst h0; exact am_k0 e h
  by_cases h1 : mid = 1
  · subst h1; exact am_k1 e h
  by_cases h2 : mid = 2
  · subst h2; exact am_k2 e h
  by_cases h3 : mid = 3
  · subst h3; exact am_k3 e h
  by_cases h4 : mid = 4
  · subst h4; exact am_k4 e h
  by_cases h5 : mid = 5
  · subst h5; exact am_k5 e h
  by_cases h6 : mid = 6
  · subst h6; exact am_k6 e h
  by_cases h7 : mid = 7
  · subst h7; exact am_k7 e h
  by_cases h8 : mid = 8
  · subst h8; exact am_k8 e h
  by_cases h9 : mid = 9
  · subst h9; exact am_k9 e h
  by_cases h10 : mid = 10
  · subst h10; exact am_k10 e h
  by_cases h11 : mid = 11
  · subst h11; exact am_k11 e h
  by_cases h12 : mid = 12
  · subst h12; exact am_k12 e h
  by_cases h13 : mid = 13
  · subst h13; exact am_k13 e h
  by_cases h14 : mid = 14
  · subst h14; exact am_k14 e h
  by_cases h15 : mid = 15
  · subst h15; exact am_k15 e h
  by_cases h16 : mid = 16
  · subst h16; exact am_k16 e h
  by_cases h17 : mid = 17
  · subst h17; exact am_k17 e h
  by_cases h18 : mid = 18
  · subst h18; exact am_k18 e h
  by_cases h19 : mid = 19
  · subst h19; exact am_k19 e h
  by_cases h20 : mid = 20
  · subst h20; exact am_k20 e h
  by_cases h21 : mid = 21
  · subst h21; exact am_k21 e h
  by_cases h22 : mid = 22
  · subst h22; exact am_k22 e h
  by_cases h23 : mid = 23
  · subst h23; exact am_k23 e h
  by_cases h24 : mid = 24
  · subst h24; exact am_k24 e h
  by_cases h25 : mid = 25
  · subst h25; exact am_k25 e h
  by_cases h26 : mid = 26
  · subst h26; exact am_k26 e h
  by_cases h27 : mid = 27
  · subst h27; exact am_k27 e h
  by_cases h28 : mid = 28
  · subst h28; exact am_k28 e h
  by_cases h29 : mid = 29
  · subst h29; exact am_k29 e h
  by_cases h30 : mid = 30
  · subst h30; exact am_k30 e h
  by_cases h31 : mid = 31
  · subst h31; exact am_k31 e h
  by_cases h32 : mid = 32
  · subst h32; exact am_k32 e h
  by_cases h33 : mid = 33
  · subst h33; exact am_k33 e h
  by_cases h34 : mid = 34
  · subst h34; exact am_k34 e h
  by_cases h35 : mid = 35
  · subst h35; exact am_k35 e h
  by_cases h36 : mid = 36
  · subst h36; exact am_k36 e h
  by_cases h37 : mid = 37
  · subst h37; exact am_k37 e h
  by_cases h38 : mid = 38
  · subst h38; exact am_k38 e h
  by_cases h39 : mid = 39
  · subst h39; exact am_k39 e h
  by_cases h40 : mid = 40
  · subst h40; exact am_k40 e h
  by_cases h41 : mid = 41
  · subst h41; exact am_k41 e h
  by_cases h42 : mid = 42
  · subst h42; exact am_k42 e h
  by_cases h43 : mid = 43
  · subst h43; exact am_k43 e h
  by_cases h44 : mid = 44
  · subst h44; exact am_k44 e h
  by_cases h45 : mid = 45
  · subst h45; exact am_k45 e h
  by_cases h46 : mid = 46
  · subst h46; exact am_k46 e h
  by_cases h47 : mid = 47
  · subst h47; exact am_k47 e h
  by_cases h48 : mid = 48
  · subst h48; exact am_k48 e h
  by_cases h49 : mid = 49
  · subst h49; exact am_k49 e h
  by_cases h50 : mid = 50
  · subst h50; exact am_k50 e h
  by_cases h51 : mid = 51
  · subst h51; exact am_k51 e h
  by_cases h52 : mid = 52
  · subst h52; exact am_k52 e h
  by_cases h53 : mid = 53
  · subst h53; exact am_k53 e h
  by_cases h54 : mid = 54
  · subst h54; exact am_k54 e h
  by_cases h55 : mid = 55
  · subst h55; exact am_k55 e h
  by_cases h56 : mid = 56
  · subst h56; exact am_k56 e h
  by_cases h57 : mid = 57
  · subst h57; exact am_k57 e h
  by_cases h58 : mid = 58
  · subst h58; exact am_k58 e h
  by_cases h59 : mid = 59
  · subst h59; exact am_k59 e h
  by_cases h60 : mid = 60
  · subst h60; exact am_k60 e h
  by_cases h61 : mid = 61
  · subst h61; exact am_k61 e h
  by_cases h62 : mid = 62
  · subst h62; exact am_k62 e h
  by_cases h63 : mid = 63
  · subst h63; exact am_k63 e h
  by_cases h64 : mid = 64
  · subst h64; exact am_k64 e h
  by_cases h65 : mid = 65
  · subst h65; exact am_k65 e h
  by_cases h66 : mid = 66
  · subst h66; exact am_k66 e h
  by_cases h67 : mid = 67
  · subst h67; exact am_k67 e h
  by_cases h68 : mid = 68
  · subst h68; exact am_k68 e h
  by_cases h69 : mid = 69
  · subst h69; exact am_k69 e h
  by_cases h70 : mid = 70
  · subst h70; exact am_k70 e h
  by_cases h71 : mid = 71
  · subst h71; exact am_k71 e h
  by_cases h72 : mid = 72
  · subst h72; exact am_k72 e h
  by_cases h73 : mid = 73
  · subst h73; exact am_k73 e h
  by_cases h74 : mid = 74
  · subst h74; exact am_k74 e h
  by_cases h75 : mid = 75
  · subst h75; exact am_k75 e h
  by_cases h76 : mid = 76
  · subst h76; exact am_k76 e h
  by_cases h77 : mid = 77
  · subst h77; exact am_k77 e h
  by_cases h78 : mid = 78
  · subst h78; exact am_k78 e h
  by_cases h79 : mid = 79
  · subst h79; exact am_k79 e h
  by_cases h80 : mid = 80
  · subst h80; exact am_k80 e h
  by_cases h81 : mid = 81
  · subst h81; exact am_k81 e h
  by_cases h82 : mid = 82
  · subst h82; exact am_k82 e h
  by_cases h83 : mid = 83
  · subst h83; exact am_k83 e h
  by_cases h84 : mid = 84
  · subst h84; exact am_k84 e h
  by_cases h85 : mid = 85
  · subst h85; exact am_k85 e h
  by_cases h86 : mid = 86
  · subst h86; exact am_k86 e h
  by_cases h87 : mid = 87
  · subst h87; exact am_k87 e h
  by_cases h88 : mid = 88
  · subst h88; exact am_k88 e h
  by_cases h89 : mid = 89
  · subst h89; exact am_k89 e h
  by_cases h90 : mid = 90
  · subst h90; exact am_k90 e h
  by_cases h91 : mid = 91
  · subst h91; exact am_k91 e h
  by_cases h92 : mid = 92
  · subst h92; exact am_k92 e h
  by_cases h93 : mid = 93
  · subst h93; exact am_k93 e h
  by_cases h94 : mid = 94
  · subst h94; exact am_k94 e h
  by_cases h95 : mid = 95
  · subst h95; exact am_k95 e h
  by_cases h96 : mid = 96
  · subst h96; exact am_k96 e h
  by_cases h97 : mid = 97
  · subst h97; exact am_k97 e h
  by_cases h98 : mid = 98
  · subst h98; exact am_k98 e h
  by_cases h99 : mid = 99
  · subst h99; exact am_k99 e h
  by_cases h100 : mid = 100
  · subst h100; exact am_k100 e h
  by_cases h101 : mid = 101
  · subst h101; exact am_k101 e h
  exfalso
  unfold am_code at h
  rw [List.getD_eq_getElem?_getD, List.getElem?_eq_none (by show 102 ≤ mid; omega)] at h
  cases h
