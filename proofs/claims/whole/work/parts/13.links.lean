theorem zp_RX0_9 : zPl RX0 9 0 0 .int false := ⟨RX0, TX0, 8, tyX0, rfl, zinX0, by decide, zw99, rfl, tyX0_ok, nmX0, rfl, by decide +kernel, fun h => by cases h⟩
theorem zp_RX0_15 : zPl RX0 15 0 1 (.array .int) true := ⟨RX0, TX0, 8, tyX0, rfl, zinX0, by decide, zw103, rfl, tyX0_ok, nmX0, rfl, by decide +kernel, fun _ => rfl⟩
theorem zp_RX0_19 : zPl RX0 19 0 2 .int false := ⟨RX0, TX0, 8, tyX0, rfl, zinX0, by decide, zw106, rfl, tyX0_ok, nmX0, rfl, by decide +kernel, fun h => by cases h⟩
theorem zp_RX0_22 : zPl RX0 22 0 3 (.array .int) true := ⟨RX0, TX0, 8, tyX0, rfl, zinX0, by decide, zw110, rfl, tyX0_ok, nmX0, rfl, by decide +kernel, fun _ => rfl⟩
theorem zp_RX0_25 : zPl RX0 25 0 4 (.array .int) true := ⟨RX0, TX0, 8, tyX0, rfl, zinX0, by decide, zw114, rfl, tyX0_ok, nmX0, rfl, by decide +kernel, fun _ => rfl⟩
theorem zp_RX0_28 : zPl RX0 28 0 5 (.array .int) true := ⟨RX0, TX0, 8, tyX0, rfl, zinX0, by decide, zw117, rfl, tyX0_ok, nmX0, rfl, by decide +kernel, fun _ => rfl⟩
theorem zp_RX0_31 : zPl RX0 31 0 6 (.array .int) true := ⟨RX0, TX0, 8, tyX0, rfl, zinX0, by decide, zw119, rfl, tyX0_ok, nmX0, rfl, by decide +kernel, fun _ => rfl⟩
theorem zp_RX0_34 : zPl RX0 34 0 7 (.array .int) true := ⟨RX0, TX0, 8, tyX0, rfl, zinX0, by decide, zw122, rfl, tyX0_ok, nmX0, rfl, by decide +kernel, fun _ => rfl⟩
theorem zf_RX0_28 : zFl RX0 28 0 5 := ⟨RX0, TX0, 8, rfl, zinX0, by decide, zw117, rfl⟩
theorem zf_RX0_9 : zFl RX0 9 0 0 := ⟨RX0, TX0, 8, rfl, zinX0, by decide, zw99, rfl⟩
theorem zf_RX0_15 : zFl RX0 15 0 1 := ⟨RX0, TX0, 8, rfl, zinX0, by decide, zw103, rfl⟩
theorem zf_RX0_34 : zFl RX0 34 0 7 := ⟨RX0, TX0, 8, rfl, zinX0, by decide, zw122, rfl⟩
theorem zf_RX0_31 : zFl RX0 31 0 6 := ⟨RX0, TX0, 8, rfl, zinX0, by decide, zw119, rfl⟩
theorem zf_RX0_19 : zFl RX0 19 0 2 := ⟨RX0, TX0, 8, rfl, zinX0, by decide, zw106, rfl⟩
theorem zf_RX0_22 : zFl RX0 22 0 3 := ⟨RX0, TX0, 8, rfl, zinX0, by decide, zw110, rfl⟩
theorem zf_RX0_25 : zFl RX0 25 0 4 := ⟨RX0, TX0, 8, rfl, zinX0, by decide, zw114, rfl⟩
theorem zp_RX1_9 : zPl RX1 9 1 0 .int false := ⟨RX1, TX1, 12, tyX1, rfl, zinX1, by decide, zw148, rfl, tyX1_ok, nmX1, rfl, by decide +kernel, fun h => by cases h⟩
theorem zp_RX1_15 : zPl RX1 15 1 1 .int false := ⟨RX1, TX1, 12, tyX1, rfl, zinX1, by decide, zw149, rfl, tyX1_ok, nmX1, rfl, by decide +kernel, fun h => by cases h⟩
theorem zp_RX1_18 : zPl RX1 18 1 2 .int false := ⟨RX1, TX1, 12, tyX1, rfl, zinX1, by decide, zw151, rfl, tyX1_ok, nmX1, rfl, by decide +kernel, fun h => by cases h⟩
theorem zp_RX1_21 : zPl RX1 21 1 3 .int false := ⟨RX1, TX1, 12, tyX1, rfl, zinX1, by decide, zw153, rfl, tyX1_ok, nmX1, rfl, by decide +kernel, fun h => by cases h⟩
theorem zp_RX1_24 : zPl RX1 24 1 4 .int false := ⟨RX1, TX1, 12, tyX1, rfl, zinX1, by decide, zw155, rfl, tyX1_ok, nmX1, rfl, by decide +kernel, fun h => by cases h⟩
theorem zp_RX1_27 : zPl RX1 27 1 5 .boolean false := ⟨RX1, TX1, 12, tyX1, rfl, zinX1, by decide, zw157, rfl, tyX1_ok, nmX1, rfl, by decide +kernel, fun h => by cases h⟩
theorem zp_RX1_31 : zPl RX1 31 1 6 (.array .int) true := ⟨RX1, TX1, 12, tyX1, rfl, zinX1, by decide, zw159, rfl, tyX1_ok, nmX1, rfl, by decide +kernel, fun _ => rfl⟩
theorem zp_RX1_35 : zPl RX1 35 1 7 (.array .int) true := ⟨RX1, TX1, 12, tyX1, rfl, zinX1, by decide, zw161, rfl, tyX1_ok, nmX1, rfl, by decide +kernel, fun _ => rfl⟩
theorem zp_RX1_38 : zPl RX1 38 1 8 (.array .int) true := ⟨RX1, TX1, 12, tyX1, rfl, zinX1, by decide, zw162, rfl, tyX1_ok, nmX1, rfl, by decide +kernel, fun _ => rfl⟩
theorem zp_RX1_41 : zPl RX1 41 1 9 (.array .int) true := ⟨RX1, TX1, 12, tyX1, rfl, zinX1, by decide, zw163, rfl, tyX1_ok, nmX1, rfl, by decide +kernel, fun _ => rfl⟩
theorem zp_RX1_44 : zPl RX1 44 1 10 (.array .int) true := ⟨RX1, TX1, 12, tyX1, rfl, zinX1, by decide, zw164, rfl, tyX1_ok, nmX1, rfl, by decide +kernel, fun _ => rfl⟩
theorem zp_RX1_47 : zPl RX1 47 1 11 (.array .int) true := ⟨RX1, TX1, 12, tyX1, rfl, zinX1, by decide, zw165, rfl, tyX1_ok, nmX1, rfl, by decide +kernel, fun _ => rfl⟩
theorem zf_RX1_31 : zFl RX1 31 1 6 := ⟨RX1, TX1, 12, rfl, zinX1, by decide, zw159, rfl⟩
theorem zf_RX1_53 : zFl RX1 53 0 0 := ⟨RX0, TX0, 8, rfl, zinX0, by decide, zw100, rfl⟩
theorem zf_RX1_41 : zFl RX1 41 1 9 := ⟨RX1, TX1, 12, rfl, zinX1, by decide, zw163, rfl⟩
theorem zf_RX1_15 : zFl RX1 15 1 1 := ⟨RX1, TX1, 12, rfl, zinX1, by decide, zw149, rfl⟩
theorem zf_RX1_18 : zFl RX1 18 1 2 := ⟨RX1, TX1, 12, rfl, zinX1, by decide, zw151, rfl⟩
theorem zf_RX1_9 : zFl RX1 9 1 0 := ⟨RX1, TX1, 12, rfl, zinX1, by decide, zw148, rfl⟩
theorem zf_RX1_35 : zFl RX1 35 1 7 := ⟨RX1, TX1, 12, rfl, zinX1, by decide, zw161, rfl⟩
theorem zf_RX1_38 : zFl RX1 38 1 8 := ⟨RX1, TX1, 12, rfl, zinX1, by decide, zw162, rfl⟩
theorem zf_RX1_44 : zFl RX1 44 1 10 := ⟨RX1, TX1, 12, rfl, zinX1, by decide, zw164, rfl⟩
theorem zf_RX1_47 : zFl RX1 47 1 11 := ⟨RX1, TX1, 12, rfl, zinX1, by decide, zw165, rfl⟩
theorem zf_RX1_50 : zFl RX1 50 0 2 := ⟨RX0, TX0, 8, rfl, zinX0, by decide, zw107, rfl⟩
theorem zf_RX1_21 : zFl RX1 21 1 3 := ⟨RX1, TX1, 12, rfl, zinX1, by decide, zw153, rfl⟩
theorem zf_RX1_24 : zFl RX1 24 1 4 := ⟨RX1, TX1, 12, rfl, zinX1, by decide, zw155, rfl⟩
theorem zf_RX1_85 : zFl RX1 85 0 3 := ⟨RX0, TX0, 8, rfl, zinX0, by decide, zw112, rfl⟩
theorem zp_RX2_9 : zPl RX2 9 2 2 .int false := ⟨RX2, TX2, 3, tyX2, rfl, zinX2, by decide, zw358, rfl, tyX2_ok, nmX2, rfl, by decide +kernel, fun h => by cases h⟩
theorem zp_RX2_15 : zPl RX2 15 2 0 (.object "PassedCarry$Row") true := ⟨RX2, TX2, 3, tyX2, rfl, zinX2, by decide, zw356, rfl, tyX2_ok, nmX2, rfl, by decide +kernel, fun _ => rfl⟩
theorem zp_RX2_19 : zPl RX2 19 2 1 (.object "PassedCarry$Hill") true := ⟨RX2, TX2, 3, tyX2, rfl, zinX2, by decide, zw357, rfl, tyX2_ok, nmX2, rfl, by decide +kernel, fun _ => rfl⟩
theorem zf_RX3_9 : zFl RX3 9 3 1 := ⟨RX3, TX3, 2, rfl, zinX3, by decide, zw201, rfl⟩
theorem zf_RX2_15 : zFl RX2 15 2 0 := ⟨RX2, TX2, 3, rfl, zinX2, by decide, zw356, rfl⟩
theorem zf_RX2_9 : zFl RX2 9 2 2 := ⟨RX2, TX2, 3, rfl, zinX2, by decide, zw358, rfl⟩
theorem zf_RX2_51 : zFl RX2 51 3 0 := ⟨RX3, TX3, 2, rfl, zinX3, by decide, zw199, rfl⟩
theorem zf_RX2_39 : zFl RX2 39 3 1 := ⟨RX3, TX3, 2, rfl, zinX3, by decide, zw202, rfl⟩
theorem zf_RX2_19 : zFl RX2 19 2 1 := ⟨RX2, TX2, 3, rfl, zinX2, by decide, zw357, rfl⟩
theorem zf_RX2_59 : zFl RX2 59 0 0 := ⟨RX0, TX0, 8, rfl, zinX0, by decide, zw101, rfl⟩
theorem zf_RX2_62 : zFl RX2 62 0 1 := ⟨RX0, TX0, 8, rfl, zinX0, by decide, zw104, rfl⟩
theorem zp_RX2_59 : zPl RX2 59 0 0 .int false := ⟨RX0, TX0, 8, tyX0, rfl, zinX0, by decide, zw101, rfl, tyX0_ok, nmX0, rfl, by decide +kernel, fun h => by cases h⟩
theorem zf_RX2_86 : zFl RX2 86 0 6 := ⟨RX0, TX0, 8, rfl, zinX0, by decide, zw120, rfl⟩
theorem zf_RX2_83 : zFl RX2 83 0 7 := ⟨RX0, TX0, 8, rfl, zinX0, by decide, zw123, rfl⟩
theorem zf_RX2_65 : zFl RX2 65 0 2 := ⟨RX0, TX0, 8, rfl, zinX0, by decide, zw108, rfl⟩
theorem zf_RX2_71 : zFl RX2 71 0 3 := ⟨RX0, TX0, 8, rfl, zinX0, by decide, zw111, rfl⟩
theorem zf_RX2_74 : zFl RX2 74 0 4 := ⟨RX0, TX0, 8, rfl, zinX0, by decide, zw115, rfl⟩
theorem zp_RX2_65 : zPl RX2 65 0 2 .int false := ⟨RX0, TX0, 8, tyX0, rfl, zinX0, by decide, zw108, rfl, tyX0_ok, nmX0, rfl, by decide +kernel, fun h => by cases h⟩
theorem zp_RX3_9 : zPl RX3 9 3 1 .int false := ⟨RX3, TX3, 2, tyX3, rfl, zinX3, by decide, zw201, rfl, tyX3_ok, nmX3, rfl, by decide +kernel, fun h => by cases h⟩
theorem zp_RX3_15 : zPl RX3 15 3 0 (.array .int) true := ⟨RX3, TX3, 2, tyX3, rfl, zinX3, by decide, zw198, rfl, tyX3_ok, nmX3, rfl, by decide +kernel, fun _ => rfl⟩
theorem zf_RX3_15 : zFl RX3 15 3 0 := ⟨RX3, TX3, 2, rfl, zinX3, by decide, zw198, rfl⟩
theorem zf_RX4_63 : zFl RX4 63 4 13 := ⟨RX4, TX4, 18, rfl, zinX4, by decide, zw225, rfl⟩
theorem zf_RX4_38 : zFl RX4 38 4 6 := ⟨RX4, TX4, 18, rfl, zinX4, by decide, zw218, rfl⟩
def zdf_1 : List Value := [.int 0, .int 0, .int 0, .int 0, .int 0, .int 0, .null, .null, .null, .null, .null, .null]
theorem zf_RX4_15 : zFl RX4 15 4 1 := ⟨RX4, TX4, 18, rfl, zinX4, by decide, zw213, rfl⟩
def zdf_3 : List Value := [.null, .int 0]
theorem zf_RX4_11 : zFl RX4 11 4 0 := ⟨RX4, TX4, 18, rfl, zinX4, by decide, zw212, rfl⟩
theorem zp_RX4_11 : zPl RX4 11 4 0 (.array (.object "PassedCarry$Row")) true := ⟨RX4, TX4, 18, tyX4, rfl, zinX4, by decide, zw212, rfl, tyX4_ok, nmX4, rfl, by decide +kernel, fun _ => rfl⟩
theorem zp_RX4_15 : zPl RX4 15 4 1 (.array (.object "PassedCarry$Row")) true := ⟨RX4, TX4, 18, tyX4, rfl, zinX4, by decide, zw213, rfl, tyX4_ok, nmX4, rfl, by decide +kernel, fun _ => rfl⟩
def zdf_0 : List Value := [.int 0, .null, .int 0, .null, .null, .null, .null, .null]
theorem zp_RX4_21 : zPl RX4 21 4 2 (.object "PassedCarry$Hill") false := ⟨RX4, TX4, 18, tyX4, rfl, zinX4, by decide, zw214, rfl, tyX4_ok, nmX4, rfl, by decide +kernel, fun h => by cases h⟩
theorem zp_RX4_25 : zPl RX4 25 4 3 (.object "PassedCarry$Hill") false := ⟨RX4, TX4, 18, tyX4, rfl, zinX4, by decide, zw215, rfl, tyX4_ok, nmX4, rfl, by decide +kernel, fun h => by cases h⟩
theorem zp_RX4_31 : zPl RX4 31 4 4 (.object "PassedCarry$Race") true := ⟨RX4, TX4, 18, tyX4, rfl, zinX4, by decide, zw216, rfl, tyX4_ok, nmX4, rfl, by decide +kernel, fun _ => rfl⟩
theorem zp_RX4_35 : zPl RX4 35 4 5 (.object "PassedCarry$Race") true := ⟨RX4, TX4, 18, tyX4, rfl, zinX4, by decide, zw217, rfl, tyX4_ok, nmX4, rfl, by decide +kernel, fun _ => rfl⟩
theorem zp_RX4_38 : zPl RX4 38 4 6 (.array (.object "PassedCarry$Race")) true := ⟨RX4, TX4, 18, tyX4, rfl, zinX4, by decide, zw218, rfl, tyX4_ok, nmX4, rfl, by decide +kernel, fun _ => rfl⟩
theorem zp_RX4_42 : zPl RX4 42 4 7 .int false := ⟨RX4, TX4, 18, tyX4, rfl, zinX4, by decide, zw219, rfl, tyX4_ok, nmX4, rfl, by decide +kernel, fun h => by cases h⟩
theorem zp_RX4_46 : zPl RX4 46 4 8 .int false := ⟨RX4, TX4, 18, tyX4, rfl, zinX4, by decide, zw220, rfl, tyX4_ok, nmX4, rfl, by decide +kernel, fun h => by cases h⟩
theorem zp_RX4_49 : zPl RX4 49 4 9 .long false := ⟨RX4, TX4, 18, tyX4, rfl, zinX4, by decide, zw221, rfl, tyX4_ok, nmX4, rfl, by decide +kernel, fun h => by cases h⟩
theorem zp_RX4_53 : zPl RX4 53 4 10 .long false := ⟨RX4, TX4, 18, tyX4, rfl, zinX4, by decide, zw222, rfl, tyX4_ok, nmX4, rfl, by decide +kernel, fun h => by cases h⟩
theorem zp_RX4_56 : zPl RX4 56 4 11 .int false := ⟨RX4, TX4, 18, tyX4, rfl, zinX4, by decide, zw223, rfl, tyX4_ok, nmX4, rfl, by decide +kernel, fun h => by cases h⟩
theorem zp_RX4_59 : zPl RX4 59 4 12 (.array .int) true := ⟨RX4, TX4, 18, tyX4, rfl, zinX4, by decide, zw224, rfl, tyX4_ok, nmX4, rfl, by decide +kernel, fun _ => rfl⟩
theorem zp_RX4_63 : zPl RX4 63 4 13 (.array .int) true := ⟨RX4, TX4, 18, tyX4, rfl, zinX4, by decide, zw225, rfl, tyX4_ok, nmX4, rfl, by decide +kernel, fun _ => rfl⟩
theorem zp_RX4_66 : zPl RX4 66 4 14 (.array .int) true := ⟨RX4, TX4, 18, tyX4, rfl, zinX4, by decide, zw226, rfl, tyX4_ok, nmX4, rfl, by decide +kernel, fun _ => rfl⟩
theorem zp_RX4_69 : zPl RX4 69 4 15 (.array .int) true := ⟨RX4, TX4, 18, tyX4, rfl, zinX4, by decide, zw227, rfl, tyX4_ok, nmX4, rfl, by decide +kernel, fun _ => rfl⟩
theorem zp_RX4_72 : zPl RX4 72 4 16 (.array .int) true := ⟨RX4, TX4, 18, tyX4, rfl, zinX4, by decide, zw228, rfl, tyX4_ok, nmX4, rfl, by decide +kernel, fun _ => rfl⟩
theorem zp_RX4_75 : zPl RX4 75 4 17 (.array .int) true := ⟨RX4, TX4, 18, tyX4, rfl, zinX4, by decide, zw229, rfl, tyX4_ok, nmX4, rfl, by decide +kernel, fun _ => rfl⟩
theorem zf_RX4_59 : zFl RX4 59 4 12 := ⟨RX4, TX4, 18, rfl, zinX4, by decide, zw224, rfl⟩
theorem zf_RX4_95 : zFl RX4 95 3 0 := ⟨RX3, TX3, 2, rfl, zinX3, by decide, zw200, rfl⟩
theorem zf_RX4_127 : zFl RX4 127 3 1 := ⟨RX3, TX3, 2, rfl, zinX3, by decide, zw203, rfl⟩
def zdf_2 : List Value := [.null, .null, .int 0]
theorem zf_RX4_25 : zFl RX4 25 4 3 := ⟨RX4, TX4, 18, rfl, zinX4, by decide, zw215, rfl⟩
theorem zf_RX4_31 : zFl RX4 31 4 4 := ⟨RX4, TX4, 18, rfl, zinX4, by decide, zw216, rfl⟩
theorem zf_RX4_21 : zFl RX4 21 4 2 := ⟨RX4, TX4, 18, rfl, zinX4, by decide, zw214, rfl⟩
theorem zf_RX4_147 : zFl RX4 147 0 5 := ⟨RX0, TX0, 8, rfl, zinX0, by decide, zw118, rfl⟩
theorem zf_RX4_150 : zFl RX4 150 0 4 := ⟨RX0, TX0, 8, rfl, zinX0, by decide, zw116, rfl⟩
theorem zf_RX4_157 : zFl RX4 157 0 2 := ⟨RX0, TX0, 8, rfl, zinX0, by decide, zw109, rfl⟩
theorem zp_RX4_143 : zPl RX4 143 1 5 .boolean false := ⟨RX1, TX1, 12, tyX1, rfl, zinX1, by decide, zw158, rfl, tyX1_ok, nmX1, rfl, by decide +kernel, fun h => by cases h⟩
theorem zf_RX4_160 : zFl RX4 160 0 0 := ⟨RX0, TX0, 8, rfl, zinX0, by decide, zw102, rfl⟩
theorem zf_RX4_163 : zFl RX4 163 0 1 := ⟨RX0, TX0, 8, rfl, zinX0, by decide, zw105, rfl⟩
theorem zf_RX4_173 : zFl RX4 173 0 6 := ⟨RX0, TX0, 8, rfl, zinX0, by decide, zw121, rfl⟩
theorem zf_RX4_179 : zFl RX4 179 0 3 := ⟨RX0, TX0, 8, rfl, zinX0, by decide, zw113, rfl⟩
theorem zf_RX4_42 : zFl RX4 42 4 7 := ⟨RX4, TX4, 18, rfl, zinX4, by decide, zw219, rfl⟩
theorem zf_RX4_201 : zFl RX4 201 1 1 := ⟨RX1, TX1, 12, rfl, zinX1, by decide, zw150, rfl⟩
theorem zf_RX4_205 : zFl RX4 205 1 4 := ⟨RX1, TX1, 12, rfl, zinX1, by decide, zw156, rfl⟩
theorem zf_RX4_208 : zFl RX4 208 1 3 := ⟨RX1, TX1, 12, rfl, zinX1, by decide, zw154, rfl⟩
theorem zf_RX4_211 : zFl RX4 211 1 11 := ⟨RX1, TX1, 12, rfl, zinX1, by decide, zw166, rfl⟩
theorem zf_RX4_143 : zFl RX4 143 1 5 := ⟨RX1, TX1, 12, rfl, zinX1, by decide, zw158, rfl⟩
theorem zf_RX4_35 : zFl RX4 35 4 5 := ⟨RX4, TX4, 18, rfl, zinX4, by decide, zw217, rfl⟩
theorem zf_RX4_75 : zFl RX4 75 4 17 := ⟨RX4, TX4, 18, rfl, zinX4, by decide, zw229, rfl⟩
theorem zf_RX4_66 : zFl RX4 66 4 14 := ⟨RX4, TX4, 18, rfl, zinX4, by decide, zw226, rfl⟩
theorem zf_RX4_328 : zFl RX4 328 1 6 := ⟨RX1, TX1, 12, rfl, zinX1, by decide, zw160, rfl⟩
theorem zf_RX4_69 : zFl RX4 69 4 15 := ⟨RX4, TX4, 18, rfl, zinX4, by decide, zw227, rfl⟩
theorem zf_RX4_72 : zFl RX4 72 4 16 := ⟨RX4, TX4, 18, rfl, zinX4, by decide, zw228, rfl⟩
theorem zf_RX4_46 : zFl RX4 46 4 8 := ⟨RX4, TX4, 18, rfl, zinX4, by decide, zw220, rfl⟩
theorem zf_RX4_49 : zFl RX4 49 4 9 := ⟨RX4, TX4, 18, rfl, zinX4, by decide, zw221, rfl⟩
theorem zf_RX4_53 : zFl RX4 53 4 10 := ⟨RX4, TX4, 18, rfl, zinX4, by decide, zw222, rfl⟩
theorem zf_RX4_288 : zFl RX4 288 1 2 := ⟨RX1, TX1, 12, rfl, zinX1, by decide, zw152, rfl⟩
theorem zf_RX4_56 : zFl RX4 56 4 11 := ⟨RX4, TX4, 18, rfl, zinX4, by decide, zw223, rfl⟩
theorem zf_RX5_22 : zFl RX5 22 5 8 := ⟨RX5, TX5, 37, rfl, zinX5, by decide, zw773, rfl⟩
theorem zf_RX5_13 : zFl RX5 13 5 5 := ⟨RX5, TX5, 37, rfl, zinX5, by decide, zw770, rfl⟩
theorem zp_RX5_7 : zPl RX5 7 5 1 (.array .int) true := ⟨RX5, TX5, 37, tyX5, rfl, zinX5, by decide, zw766, rfl, tyX5_ok, nmX5, rfl, by decide +kernel, fun _ => rfl⟩
theorem zp_RX5_13 : zPl RX5 13 5 5 (.array .int) true := ⟨RX5, TX5, 37, tyX5, rfl, zinX5, by decide, zw770, rfl, tyX5_ok, nmX5, rfl, by decide +kernel, fun _ => rfl⟩
theorem zp_RX5_16 : zPl RX5 16 5 6 (.array .int) true := ⟨RX5, TX5, 37, tyX5, rfl, zinX5, by decide, zw771, rfl, tyX5_ok, nmX5, rfl, by decide +kernel, fun _ => rfl⟩
theorem zp_RX5_19 : zPl RX5 19 5 7 (.array .int) true := ⟨RX5, TX5, 37, tyX5, rfl, zinX5, by decide, zw772, rfl, tyX5_ok, nmX5, rfl, by decide +kernel, fun _ => rfl⟩
theorem zp_RX5_22 : zPl RX5 22 5 8 (.array .int) true := ⟨RX5, TX5, 37, tyX5, rfl, zinX5, by decide, zw773, rfl, tyX5_ok, nmX5, rfl, by decide +kernel, fun _ => rfl⟩
theorem zp_RX5_25 : zPl RX5 25 5 9 (.array .byte) true := ⟨RX5, TX5, 37, tyX5, rfl, zinX5, by decide, zw774, rfl, tyX5_ok, nmX5, rfl, by decide +kernel, fun _ => rfl⟩
theorem zp_RX5_29 : zPl RX5 29 5 11 (.array .int) true := ⟨RX5, TX5, 37, tyX5, rfl, zinX5, by decide, zw776, rfl, tyX5_ok, nmX5, rfl, by decide +kernel, fun _ => rfl⟩
theorem zp_RX5_32 : zPl RX5 32 5 13 (.array .int) true := ⟨RX5, TX5, 37, tyX5, rfl, zinX5, by decide, zw778, rfl, tyX5_ok, nmX5, rfl, by decide +kernel, fun _ => rfl⟩
theorem zp_RX5_35 : zPl RX5 35 5 14 (.array .int) true := ⟨RX5, TX5, 37, tyX5, rfl, zinX5, by decide, zw779, rfl, tyX5_ok, nmX5, rfl, by decide +kernel, fun _ => rfl⟩
theorem zp_RX5_38 : zPl RX5 38 5 15 (.array .int) true := ⟨RX5, TX5, 37, tyX5, rfl, zinX5, by decide, zw780, rfl, tyX5_ok, nmX5, rfl, by decide +kernel, fun _ => rfl⟩
theorem zp_RX5_41 : zPl RX5 41 5 16 (.array .int) true := ⟨RX5, TX5, 37, tyX5, rfl, zinX5, by decide, zw781, rfl, tyX5_ok, nmX5, rfl, by decide +kernel, fun _ => rfl⟩
theorem zp_RX5_44 : zPl RX5 44 5 17 (.array .int) true := ⟨RX5, TX5, 37, tyX5, rfl, zinX5, by decide, zw782, rfl, tyX5_ok, nmX5, rfl, by decide +kernel, fun _ => rfl⟩
theorem zp_RX5_47 : zPl RX5 47 5 22 (.array .int) true := ⟨RX5, TX5, 37, tyX5, rfl, zinX5, by decide, zw787, rfl, tyX5_ok, nmX5, rfl, by decide +kernel, fun _ => rfl⟩
theorem zp_RX5_50 : zPl RX5 50 5 23 (.array .int) true := ⟨RX5, TX5, 37, tyX5, rfl, zinX5, by decide, zw788, rfl, tyX5_ok, nmX5, rfl, by decide +kernel, fun _ => rfl⟩
theorem zp_RX5_53 : zPl RX5 53 5 24 (.array .int) true := ⟨RX5, TX5, 37, tyX5, rfl, zinX5, by decide, zw789, rfl, tyX5_ok, nmX5, rfl, by decide +kernel, fun _ => rfl⟩
theorem zp_RX5_56 : zPl RX5 56 5 25 (.array .int) true := ⟨RX5, TX5, 37, tyX5, rfl, zinX5, by decide, zw790, rfl, tyX5_ok, nmX5, rfl, by decide +kernel, fun _ => rfl⟩
theorem zp_RX5_59 : zPl RX5 59 5 26 (.array .int) true := ⟨RX5, TX5, 37, tyX5, rfl, zinX5, by decide, zw791, rfl, tyX5_ok, nmX5, rfl, by decide +kernel, fun _ => rfl⟩
theorem zp_RX5_62 : zPl RX5 62 5 27 (.array .boolean) true := ⟨RX5, TX5, 37, tyX5, rfl, zinX5, by decide, zw792, rfl, tyX5_ok, nmX5, rfl, by decide +kernel, fun _ => rfl⟩
theorem zp_RX5_66 : zPl RX5 66 5 28 (.array .int) true := ⟨RX5, TX5, 37, tyX5, rfl, zinX5, by decide, zw793, rfl, tyX5_ok, nmX5, rfl, by decide +kernel, fun _ => rfl⟩
theorem zp_RX5_69 : zPl RX5 69 5 31 (.array .int) true := ⟨RX5, TX5, 37, tyX5, rfl, zinX5, by decide, zw796, rfl, tyX5_ok, nmX5, rfl, by decide +kernel, fun _ => rfl⟩
theorem zp_RX5_72 : zPl RX5 72 5 32 (.array .int) true := ⟨RX5, TX5, 37, tyX5, rfl, zinX5, by decide, zw797, rfl, tyX5_ok, nmX5, rfl, by decide +kernel, fun _ => rfl⟩
theorem zp_RX5_75 : zPl RX5 75 5 33 (.array .int) true := ⟨RX5, TX5, 37, tyX5, rfl, zinX5, by decide, zw798, rfl, tyX5_ok, nmX5, rfl, by decide +kernel, fun _ => rfl⟩
theorem zp_RX5_78 : zPl RX5 78 5 4 .long false := ⟨RX5, TX5, 37, tyX5, rfl, zinX5, by decide, zw769, rfl, tyX5_ok, nmX5, rfl, by decide +kernel, fun h => by cases h⟩
theorem zp_RX5_82 : zPl RX5 82 5 0 .int false := ⟨RX5, TX5, 37, tyX5, rfl, zinX5, by decide, zw765, rfl, tyX5_ok, nmX5, rfl, by decide +kernel, fun h => by cases h⟩
theorem zf_RX5_7 : zFl RX5 7 5 1 := ⟨RX5, TX5, 37, rfl, zinX5, by decide, zw766, rfl⟩
theorem zf_RX5_82 : zFl RX5 82 5 0 := ⟨RX5, TX5, 37, rfl, zinX5, by decide, zw765, rfl⟩
theorem zp_RX5_90 : zPl RX5 90 5 2 .int false := ⟨RX5, TX5, 37, tyX5, rfl, zinX5, by decide, zw767, rfl, tyX5_ok, nmX5, rfl, by decide +kernel, fun h => by cases h⟩
theorem zf_RX5_90 : zFl RX5 90 5 2 := ⟨RX5, TX5, 37, rfl, zinX5, by decide, zw767, rfl⟩
theorem zp_RX5_93 : zPl RX5 93 5 3 .long false := ⟨RX5, TX5, 37, tyX5, rfl, zinX5, by decide, zw768, rfl, tyX5_ok, nmX5, rfl, by decide +kernel, fun h => by cases h⟩
theorem zf_RX5_93 : zFl RX5 93 5 3 := ⟨RX5, TX5, 37, rfl, zinX5, by decide, zw768, rfl⟩
theorem zf_RX5_78 : zFl RX5 78 5 4 := ⟨RX5, TX5, 37, rfl, zinX5, by decide, zw769, rfl⟩
theorem zf_RX5_16 : zFl RX5 16 5 6 := ⟨RX5, TX5, 37, rfl, zinX5, by decide, zw771, rfl⟩
theorem zf_RX5_19 : zFl RX5 19 5 7 := ⟨RX5, TX5, 37, rfl, zinX5, by decide, zw772, rfl⟩
theorem zf_RX5_25 : zFl RX5 25 5 9 := ⟨RX5, TX5, 37, rfl, zinX5, by decide, zw774, rfl⟩
theorem zf_RX5_120 : zFl RX5 120 5 20 := ⟨RX5, TX5, 37, rfl, zinX5, by decide, zw785, rfl⟩
theorem zf_RX5_114 : zFl RX5 114 5 19 := ⟨RX5, TX5, 37, rfl, zinX5, by decide, zw784, rfl⟩
theorem zf_RX5_47 : zFl RX5 47 5 22 := ⟨RX5, TX5, 37, rfl, zinX5, by decide, zw787, rfl⟩
theorem zp_RX5_120 : zPl RX5 120 5 20 .int false := ⟨RX5, TX5, 37, tyX5, rfl, zinX5, by decide, zw785, rfl, tyX5_ok, nmX5, rfl, by decide +kernel, fun h => by cases h⟩
theorem zp_RX5_114 : zPl RX5 114 5 19 .int false := ⟨RX5, TX5, 37, tyX5, rfl, zinX5, by decide, zw784, rfl, tyX5_ok, nmX5, rfl, by decide +kernel, fun h => by cases h⟩
theorem zf_RX5_50 : zFl RX5 50 5 23 := ⟨RX5, TX5, 37, rfl, zinX5, by decide, zw788, rfl⟩
theorem zf_RX5_129 : zFl RX5 129 5 21 := ⟨RX5, TX5, 37, rfl, zinX5, by decide, zw786, rfl⟩
theorem zf_RX5_53 : zFl RX5 53 5 24 := ⟨RX5, TX5, 37, rfl, zinX5, by decide, zw789, rfl⟩
theorem zf_RX5_56 : zFl RX5 56 5 25 := ⟨RX5, TX5, 37, rfl, zinX5, by decide, zw790, rfl⟩
theorem zp_RX5_129 : zPl RX5 129 5 21 .int false := ⟨RX5, TX5, 37, tyX5, rfl, zinX5, by decide, zw786, rfl, tyX5_ok, nmX5, rfl, by decide +kernel, fun h => by cases h⟩
theorem zf_RX5_59 : zFl RX5 59 5 26 := ⟨RX5, TX5, 37, rfl, zinX5, by decide, zw791, rfl⟩
theorem zp_RX5_179 : zPl RX5 179 5 29 .int false := ⟨RX5, TX5, 37, tyX5, rfl, zinX5, by decide, zw794, rfl, tyX5_ok, nmX5, rfl, by decide +kernel, fun h => by cases h⟩
theorem zf_RX5_66 : zFl RX5 66 5 28 := ⟨RX5, TX5, 37, rfl, zinX5, by decide, zw793, rfl⟩
theorem zf_RX5_179 : zFl RX5 179 5 29 := ⟨RX5, TX5, 37, rfl, zinX5, by decide, zw794, rfl⟩
theorem zf_RX5_144 : zFl RX5 144 5 10 := ⟨RX5, TX5, 37, rfl, zinX5, by decide, zw775, rfl⟩
theorem zf_RX5_147 : zFl RX5 147 5 12 := ⟨RX5, TX5, 37, rfl, zinX5, by decide, zw777, rfl⟩
theorem zf_RX5_35 : zFl RX5 35 5 14 := ⟨RX5, TX5, 37, rfl, zinX5, by decide, zw779, rfl⟩
theorem zf_RX5_38 : zFl RX5 38 5 15 := ⟨RX5, TX5, 37, rfl, zinX5, by decide, zw780, rfl⟩
theorem zf_RX5_44 : zFl RX5 44 5 17 := ⟨RX5, TX5, 37, rfl, zinX5, by decide, zw782, rfl⟩
theorem zf_RX5_62 : zFl RX5 62 5 27 := ⟨RX5, TX5, 37, rfl, zinX5, by decide, zw792, rfl⟩
theorem zf_RX5_32 : zFl RX5 32 5 13 := ⟨RX5, TX5, 37, rfl, zinX5, by decide, zw778, rfl⟩
theorem zf_RX5_41 : zFl RX5 41 5 16 := ⟨RX5, TX5, 37, rfl, zinX5, by decide, zw781, rfl⟩
theorem zf_RX5_29 : zFl RX5 29 5 11 := ⟨RX5, TX5, 37, rfl, zinX5, by decide, zw776, rfl⟩
theorem zp_RX5_144 : zPl RX5 144 5 10 .int false := ⟨RX5, TX5, 37, tyX5, rfl, zinX5, by decide, zw775, rfl, tyX5_ok, nmX5, rfl, by decide +kernel, fun h => by cases h⟩
theorem zp_RX5_147 : zPl RX5 147 5 12 .int false := ⟨RX5, TX5, 37, tyX5, rfl, zinX5, by decide, zw777, rfl, tyX5_ok, nmX5, rfl, by decide +kernel, fun h => by cases h⟩
theorem zp_RX5_150 : zPl RX5 150 5 18 .int false := ⟨RX5, TX5, 37, tyX5, rfl, zinX5, by decide, zw783, rfl, tyX5_ok, nmX5, rfl, by decide +kernel, fun h => by cases h⟩
theorem zf_RX5_150 : zFl RX5 150 5 18 := ⟨RX5, TX5, 37, rfl, zinX5, by decide, zw783, rfl⟩
theorem zf_RX5_69 : zFl RX5 69 5 31 := ⟨RX5, TX5, 37, rfl, zinX5, by decide, zw796, rfl⟩
theorem zf_RX5_199 : zFl RX5 199 5 30 := ⟨RX5, TX5, 37, rfl, zinX5, by decide, zw795, rfl⟩
theorem zf_RX5_72 : zFl RX5 72 5 32 := ⟨RX5, TX5, 37, rfl, zinX5, by decide, zw797, rfl⟩
theorem zp_RX5_199 : zPl RX5 199 5 30 .int false := ⟨RX5, TX5, 37, tyX5, rfl, zinX5, by decide, zw795, rfl, tyX5_ok, nmX5, rfl, by decide +kernel, fun h => by cases h⟩
theorem zf_RX5_75 : zFl RX5 75 5 33 := ⟨RX5, TX5, 37, rfl, zinX5, by decide, zw798, rfl⟩
theorem zp_RX5_266 : zPl RX5 266 5 34 .int false := ⟨RX5, TX5, 37, tyX5, rfl, zinX5, by decide, zw799, rfl, tyX5_ok, nmX5, rfl, by decide +kernel, fun h => by cases h⟩
theorem zf_RX5_269 : zFl RX5 269 5 35 := ⟨RX5, TX5, 37, rfl, zinX5, by decide, zw800, rfl⟩
theorem zp_RX5_269 : zPl RX5 269 5 35 .int false := ⟨RX5, TX5, 37, tyX5, rfl, zinX5, by decide, zw800, rfl, tyX5_ok, nmX5, rfl, by decide +kernel, fun h => by cases h⟩
theorem zf_RX5_266 : zFl RX5 266 5 34 := ⟨RX5, TX5, 37, rfl, zinX5, by decide, zw799, rfl⟩
theorem zf_RX5_305 : zFl RX5 305 5 36 := ⟨RX5, TX5, 37, rfl, zinX5, by decide, zw801, rfl⟩
theorem zp_RX5_305 : zPl RX5 305 5 36 .long false := ⟨RX5, TX5, 37, tyX5, rfl, zinX5, by decide, zw801, rfl, tyX5_ok, nmX5, rfl, by decide +kernel, fun h => by cases h⟩
def zdf_4 : List Value := [.null, .null, .null, .null, .null, .null, .null, .int 0, .int 0, .long 0, .long 0, .int 0, .null, .null, .null, .null, .null, .null]
def zdf_5 : List Value := [.int 0, .null, .int 0, .long 0, .long 0, .null, .null, .null, .null, .null, .int 0, .null, .int 0, .null, .null, .null, .null, .null, .int 0, .int 0, .int 0, .int 0, .null, .null, .null, .null, .null, .null, .null, .int 0, .int 0, .null, .null, .null, .int 0, .int 0, .long 0]
theorem zm_RX0_37 : zMs RX0 37 yJ7_fill_53178 cJ7_fill_53178 4 none 2 := ⟨zw374, zw210, zw77, zw211, by decide +kernel, by decide +kernel, by decide +kernel⟩
theorem zm_RX0_43 : zMv RX0 43 0 yX0_paceAt cX0_paceAt 3 (some .int) 2 := ⟨⟨TX0, 8, rfl⟩, zw459, zw441, zw442, zw74, zw443, by decide +kernel, by decide +kernel, by decide +kernel⟩
theorem zm_RX0_47 : zMs RX0 47 yX0_isOf cX0_isOf 2 (some .boolean) 2 := ⟨zw726, zw449, zw74, zw450, by decide +kernel, by decide +kernel, by decide +kernel⟩
theorem zm_RX1_62 : zMv RX1 62 1 yX1_noteEnd cX1_noteEnd 3 none 2 := ⟨⟨TX1, 12, rfl⟩, zw416, zw418, zw9, zw75, zw419, by decide +kernel, by decide +kernel, by decide +kernel⟩
theorem zm_RX1_103 : zMs RX1 103 yX0_isOf cX0_isOf 2 (some .boolean) 2 := ⟨zw510, zw449, zw74, zw450, by decide +kernel, by decide +kernel, by decide +kernel⟩
theorem zm_RX1_74 : zMv RX1 74 1 yX1_isDone cX1_isDone 2 (some .boolean) 1 := ⟨⟨TX1, 12, rfl⟩, zw488, zw489, zw490, zw75, zw491, by decide +kernel, by decide +kernel, by decide +kernel⟩
theorem zm_RX1_107 : zMv RX1 107 1 yX1_sackMoves cX1_sackMoves 4 (some .boolean) 3 := ⟨⟨TX1, 12, rfl⟩, zw515, zw517, zw14, zw75, zw518, by decide +kernel, by decide +kernel, by decide +kernel⟩
theorem zm_RX1_96 : zMv RX1 96 1 yX1_passOthers cX1_passOthers 7 none 4 := ⟨⟨TX1, 12, rfl⟩, zw511, zw513, zw13, zw75, zw514, by decide +kernel, by decide +kernel, by decide +kernel⟩
theorem zm_RX1_92 : zMv RX1 92 1 yX1_breathAfter cX1_breathAfter 6 (some .int) 4 := ⟨⟨TX1, 12, rfl⟩, zw504, zw506, zw12, zw75, zw507, by decide +kernel, by decide +kernel, by decide +kernel⟩
theorem zm_RX1_88 : zMv RX1 88 0 yX0_slopeAt cX0_slopeAt 2 (some .int) 1 := ⟨⟨TX0, 8, rfl⟩, zw500, zw501, zw502, zw74, zw503, by decide +kernel, by decide +kernel, by decide +kernel⟩
theorem zm_RX1_81 : zMv RX1 81 1 yX1_goBy cX1_goBy 11 none 4 := ⟨⟨TX1, 12, rfl⟩, zw496, zw498, zw11, zw75, zw499, by decide +kernel, by decide +kernel, by decide +kernel⟩
theorem zm_RX1_78 : zMv RX1 78 0 yX0_plannedPace cX0_plannedPace 4 (some .int) 2 := ⟨⟨TX0, 8, rfl⟩, zw492, zw493, zw494, zw74, zw495, by decide +kernel, by decide +kernel, by decide +kernel⟩
theorem zm_RX1_66 : zMv RX1 66 1 yX1_isOver cX1_isOver 1 (some .boolean) 0 := ⟨⟨TX1, 12, rfl⟩, zw570, zw481, zw482, zw75, zw483, by decide +kernel, by decide +kernel, by decide +kernel⟩
theorem zm_RX1_70 : zMv RX1 70 1 yX1_takeStep cX1_takeStep 6 none 3 := ⟨⟨TX1, 12, rfl⟩, zw571, zw485, zw486, zw75, zw487, by decide +kernel, by decide +kernel, by decide +kernel⟩
theorem zm_RX1_111 : zMv RX1 111 1 yX1_isAhead cX1_isAhead 3 (some .boolean) 2 := ⟨⟨TX1, 12, rfl⟩, zw531, zw533, zw15, zw75, zw534, by decide +kernel, by decide +kernel, by decide +kernel⟩
theorem zm_RX1_117 : zMv RX1 117 1 yX1_rankOf cX1_rankOf 4 (some .int) 1 := ⟨⟨TX1, 12, rfl⟩, zw527, zw528, zw529, zw75, zw530, by decide +kernel, by decide +kernel, by decide +kernel⟩
theorem zm_RX2_47 : zMv RX2 47 3 yX3_has cX3_has 2 (some .boolean) 1 := ⟨⟨TX3, 2, rfl⟩, zw383, zw301, zw302, zw76, zw303, by decide +kernel, by decide +kernel, by decide +kernel⟩
theorem zm_RX2_31 : zMv RX2 31 2 yX2_sign cX2_sign 1 (some .int) 0 := ⟨⟨TX2, 3, rfl⟩, zw379, zw381, zw5, zw80, zw382, by decide +kernel, by decide +kernel, by decide +kernel⟩
theorem zm_RX2_55 : zMs RX2 55 yX2_slopeOf cX2_slopeOf 1 (some .int) 1 := ⟨zw388, zw389, zw80, zw390, by decide +kernel, by decide +kernel, by decide +kernel⟩
theorem zm_RX2_80 : zMs RX2 80 yX2_paceOf cX2_paceOf 1 (some .int) 1 := ⟨zw402, zw403, zw80, zw404, by decide +kernel, by decide +kernel, by decide +kernel⟩
theorem zm_RX2_68 : zMs RX2 68 yX2_kindOf cX2_kindOf 1 (some .int) 1 := ⟨zw395, zw396, zw80, zw397, by decide +kernel, by decide +kernel, by decide +kernel⟩
theorem zm_RX2_77 : zMv RX2 77 2 yX2_readPlan cX2_readPlan 4 (some .boolean) 1 := ⟨⟨TX2, 3, rfl⟩, zw398, zw400, zw8, zw80, zw401, by decide +kernel, by decide +kernel, by decide +kernel⟩
theorem zm_RX2_44 : zMv RX2 44 2 yX2_readRunner cX2_readRunner 4 (some .boolean) 0 := ⟨⟨TX2, 3, rfl⟩, zw391, zw393, zw7, zw80, zw394, by decide +kernel, by decide +kernel, by decide +kernel⟩
theorem zm_RX2_28 : zMv RX2 28 2 yX2_skipBlanks cX2_skipBlanks 1 none 0 := ⟨⟨TX2, 3, rfl⟩, zw375, zw377, zw4, zw80, zw378, by decide +kernel, by decide +kernel, by decide +kernel⟩
theorem zm_RX2_23 : zMv RX2 23 0 yX0_clear cX0_clear 1 none 0 := ⟨⟨TX0, 8, rfl⟩, zw370, zw371, zw372, zw74, zw373, by decide +kernel, by decide +kernel, by decide +kernel⟩
theorem zm_RX2_35 : zMv RX2 35 2 yX2_readYards cX2_readYards 2 (some .boolean) 0 := ⟨⟨TX2, 3, rfl⟩, zw384, zw386, zw6, zw80, zw387, by decide +kernel, by decide +kernel, by decide +kernel⟩
theorem zm_RX3_19 : zMs RX3 19 yJ7_fill_53178 cJ7_fill_53178 4 none 2 := ⟨zw283, zw210, zw77, zw211, by decide +kernel, by decide +kernel, by decide +kernel⟩
theorem zm_RX3_29 : zMv RX3 29 3 yX3_add cX3_add 2 none 1 := ⟨⟨TX3, 2, rfl⟩, zw661, zw662, zw663, zw76, zw664, by decide +kernel, by decide +kernel, by decide +kernel⟩
theorem zm_RX3_25 : zMv RX3 25 3 yX3_renew cX3_renew 3 none 2 := ⟨⟨TX3, 2, rfl⟩, zw660, zw280, zw281, zw76, zw282, by decide +kernel, by decide +kernel, by decide +kernel⟩
theorem zm_RX3_35 : zMv RX3 35 3 yX3_isMissing cX3_isMissing 1 (some .boolean) 0 := ⟨⟨TX3, 2, rfl⟩, zw758, zw297, zw298, zw76, zw299, by decide +kernel, by decide +kernel, by decide +kernel⟩
theorem zm_RX4_81 : zMs RX4 81 yJ7_fill_53178 cJ7_fill_53178 4 none 2 := ⟨zw209, zw210, zw77, zw211, by decide +kernel, by decide +kernel, by decide +kernel⟩
theorem zn_RX4_28 : zNl RX4 28 1 zdf_1 := ⟨RX1, TX1, 12, tyX1, rfl, zinX1, zw142, zw143, zw75, tyX1_ok, rfl, by decide +kernel, fun _ => rfl⟩
theorem zm_RX4_30 : zMi RX4 30 yX1_init cX1_init 1 0 := ⟨Or.inr ⟨by decide +kernel, rfl⟩, zw145, zw75, zw146, rfl, by decide +kernel, by decide +kernel, by decide +kernel⟩
theorem zn_RX4_9 : zNl RX4 9 3 zdf_3 := ⟨RX3, TX3, 2, tyX3, rfl, zinX3, zw91, zw193, zw76, tyX3_ok, rfl, by decide +kernel, fun _ => rfl⟩
theorem zm_RX4_78 : zMi RX4 78 yX3_init cX3_init 2 1 := ⟨Or.inl zw194, zw195, zw76, zw196, rfl, by decide +kernel, by decide +kernel, by decide +kernel⟩
theorem zn_RX4_18 : zNl RX4 18 0 zdf_0 := ⟨RX0, TX0, 8, tyX0, rfl, zinX0, zw93, zw94, zw74, tyX0_ok, rfl, by decide +kernel, fun _ => rfl⟩
theorem zm_RX4_20 : zMi RX4 20 yX0_init cX0_init 1 0 := ⟨Or.inr ⟨by decide +kernel, rfl⟩, zw96, zw74, zw97, rfl, by decide +kernel, by decide +kernel, by decide +kernel⟩
theorem zm_RX4_224 : zMv RX4 224 3 yX3_renew cX3_renew 3 none 2 := ⟨⟨TX3, 2, rfl⟩, zw279, zw280, zw281, zw76, zw282, by decide +kernel, by decide +kernel, by decide +kernel⟩
theorem zm_RX4_109 : zMv RX4 109 4 yX4_found cX4_found 2 (some .int) 1 := ⟨⟨TX4, 18, rfl⟩, zw275, zw277, zw1, zw73, zw278, by decide +kernel, by decide +kernel, by decide +kernel⟩
theorem zm_RX4_87 : zMv RX4 87 4 yX4_layOut cX4_layOut 5 (some .int) 4 := ⟨⟨TX4, 18, rfl⟩, zw271, zw273, zw0, zw73, zw274, by decide +kernel, by decide +kernel, by decide +kernel⟩
theorem zm_RX4_113 : zMv RX4 113 3 yX3_isMissing cX3_isMissing 1 (some .boolean) 0 := ⟨⟨TX3, 2, rfl⟩, zw296, zw297, zw298, zw76, zw299, by decide +kernel, by decide +kernel, by decide +kernel⟩
theorem zm_RX4_98 : zMv RX4 98 4 yX4_refusalOf cX4_refusalOf 3 (some .int) 2 := ⟨⟨TX4, 18, rfl⟩, zw292, zw294, zw3, zw73, zw295, by decide +kernel, by decide +kernel, by decide +kernel⟩
theorem zm_RX4_316 : zMv RX4 316 3 yX3_has cX3_has 2 (some .boolean) 1 := ⟨⟨TX3, 2, rfl⟩, zw300, zw301, zw302, zw76, zw303, by decide +kernel, by decide +kernel, by decide +kernel⟩
theorem zm_RX4_91 : zMv RX4 91 4 yX4_refusalAt cX4_refusalAt 5 (some .int) 3 := ⟨⟨TX4, 18, rfl⟩, zw288, zw290, zw2, zw73, zw291, by decide +kernel, by decide +kernel, by decide +kernel⟩
theorem zm_RX4_102 : zMv RX4 102 3 yX3_remove cX3_remove 1 none 0 := ⟨⟨TX3, 2, rfl⟩, zw312, zw313, zw314, zw76, zw315, by decide +kernel, by decide +kernel, by decide +kernel⟩
theorem zm_RX4_105 : zMs RX4 105 yX4_isRow cX4_isRow 1 (some .boolean) 1 := ⟨zw320, zw321, zw73, zw322, by decide +kernel, by decide +kernel, by decide +kernel⟩
theorem zm_RX4_117 : zMv RX4 117 3 yX3_hasFrom cX3_hasFrom 3 (some .boolean) 2 := ⟨⟨TX3, 2, rfl⟩, zw323, zw324, zw325, zw76, zw326, by decide +kernel, by decide +kernel, by decide +kernel⟩
theorem zm_RX4_130 : zMv RX4 130 3 yX3_sum cX3_sum 4 (some .long) 0 := ⟨⟨TX3, 2, rfl⟩, zw334, zw335, zw336, zw76, zw337, by decide +kernel, by decide +kernel, by decide +kernel⟩
theorem zn_RX4_134 : zNl RX4 134 2 zdf_2 := ⟨RX2, TX2, 3, tyX2, rfl, zinX2, zw350, zw351, zw80, tyX2_ok, rfl, by decide +kernel, fun _ => rfl⟩
theorem zm_RX4_136 : zMi RX4 136 yX2_init cX2_init 3 2 := ⟨Or.inl zw352, zw353, zw80, zw354, rfl, by decide +kernel, by decide +kernel, by decide +kernel⟩
theorem zm_RX4_139 : zMv RX4 139 2 yX2_readHill cX2_readHill 2 (some .int) 0 := ⟨⟨TX2, 3, rfl⟩, zw366, zw367, zw368, zw80, zw369, by decide +kernel, by decide +kernel, by decide +kernel⟩
theorem zm_RX4_153 : zMv RX4 153 1 yX1_setOff cX1_setOff 5 none 3 := ⟨⟨TX1, 12, rfl⟩, zw409, zw410, zw411, zw75, zw412, by decide +kernel, by decide +kernel, by decide +kernel⟩
theorem zm_RX4_166 : zMv RX4 166 4 yX4_isRunner cX4_isRunner 2 (some .boolean) 1 := ⟨⟨TX4, 18, rfl⟩, zw428, zw430, zw10, zw73, zw431, by decide +kernel, by decide +kernel, by decide +kernel⟩
theorem zm_RX4_169 : zMv RX4 169 0 yX0_detail cX0_detail 3 (some .int) 2 := ⟨⟨TX0, 8, rfl⟩, zw432, zw433, zw434, zw74, zw435, by decide +kernel, by decide +kernel, by decide +kernel⟩
theorem zm_RX4_176 : zMv RX4 176 0 yX0_paceAt cX0_paceAt 3 (some .int) 2 := ⟨⟨TX0, 8, rfl⟩, zw440, zw441, zw442, zw74, zw443, by decide +kernel, by decide +kernel, by decide +kernel⟩
theorem zm_RX4_188 : zMv RX4 188 0 yX0_pacesOf cX0_pacesOf 5 (some .int) 2 := ⟨⟨TX0, 8, rfl⟩, zw455, zw456, zw457, zw74, zw458, by decide +kernel, by decide +kernel, by decide +kernel⟩
theorem zm_RX4_182 : zMs RX4 182 yX0_isOf cX0_isOf 2 (some .boolean) 2 := ⟨zw448, zw449, zw74, zw450, by decide +kernel, by decide +kernel, by decide +kernel⟩
theorem zm_RX4_185 : zMv RX4 185 0 yX0_climbs cX0_climbs 3 (some .int) 0 := ⟨⟨TX0, 8, rfl⟩, zw451, zw452, zw453, zw74, zw454, by decide +kernel, by decide +kernel, by decide +kernel⟩
theorem zm_RX4_191 : zMv RX4 191 0 yX0_hasRoad cX0_hasRoad 1 (some .boolean) 0 := ⟨⟨TX0, 8, rfl⟩, zw472, zw473, zw474, zw74, zw475, by decide +kernel, by decide +kernel, by decide +kernel⟩
theorem zm_RX4_194 : zMv RX4 194 1 yX1_isOver cX1_isOver 1 (some .boolean) 0 := ⟨⟨TX1, 12, rfl⟩, zw480, zw481, zw482, zw75, zw483, by decide +kernel, by decide +kernel, by decide +kernel⟩
theorem zm_RX4_197 : zMv RX4 197 1 yX1_takeStep cX1_takeStep 6 none 3 := ⟨⟨TX1, 12, rfl⟩, zw484, zw485, zw486, zw75, zw487, by decide +kernel, by decide +kernel, by decide +kernel⟩
theorem zm_RX4_204 : zMv RX4 204 1 yX1_detail cX1_detail 3 (some .int) 2 := ⟨⟨TX1, 12, rfl⟩, zw523, zw524, zw525, zw75, zw526, by decide +kernel, by decide +kernel, by decide +kernel⟩
theorem zm_RX4_214 : zMs RX4 214 yX4_isKeptPlace cX4_isKeptPlace 1 (some .boolean) 1 := ⟨zw547, zw548, zw73, zw549, by decide +kernel, by decide +kernel, by decide +kernel⟩
theorem zm_RX4_217 : zMv RX4 217 1 yX1_becomeLike cX1_becomeLike 3 none 1 := ⟨⟨TX1, 12, rfl⟩, zw550, zw551, zw552, zw75, zw553, by decide +kernel, by decide +kernel, by decide +kernel⟩
theorem zm_RX4_319 : zMv RX4 319 1 yX1_runOut cX1_runOut 5 none 3 := ⟨⟨TX1, 12, rfl⟩, zw566, zw567, zw568, zw75, zw569, by decide +kernel, by decide +kernel, by decide +kernel⟩
theorem zm_RX4_221 : zMv RX4 221 4 yX4_finishTrial cX4_finishTrial 2 none 1 := ⟨⟨TX4, 18, rfl⟩, zw562, zw564, zw16, zw73, zw565, by decide +kernel, by decide +kernel, by decide +kernel⟩
theorem zm_RX4_228 : zMv RX4 228 1 yX1_rankOf cX1_rankOf 4 (some .int) 1 := ⟨⟨TX1, 12, rfl⟩, zw576, zw528, zw529, zw75, zw530, by decide +kernel, by decide +kernel, by decide +kernel⟩
theorem zm_RX4_258 : zMs RX4 258 yX4_figureOf cX4_figureOf 2 (some .int) 2 := ⟨zw592, zw593, zw73, zw594, by decide +kernel, by decide +kernel, by decide +kernel⟩
theorem zm_RX4_234 : zMv RX4 234 4 yX4_tryChoices cX4_tryChoices 7 none 4 := ⟨⟨TX4, 18, rfl⟩, zw588, zw590, zw17, zw73, zw591, by decide +kernel, by decide +kernel, by decide +kernel⟩
theorem zm_RX4_231 : zMs RX4 231 yX4_powerOfFour cX4_powerOfFour 1 (some .int) 1 := ⟨zw585, zw586, zw73, zw587, by decide +kernel, by decide +kernel, by decide +kernel⟩
theorem zm_RX4_238 : zMv RX4 238 4 yX4_tellFraction cX4_tellFraction 12 none 2 := ⟨⟨TX4, 18, rfl⟩, zw599, zw601, zw18, zw73, zw602, by decide +kernel, by decide +kernel, by decide +kernel⟩
theorem zm_RX4_325 : zMv RX4 325 4 yX4_placeOfMost cX4_placeOfMost 4 (some .int) 1 := ⟨⟨TX4, 18, rfl⟩, zw615, zw617, zw21, zw73, zw618, by decide +kernel, by decide +kernel, by decide +kernel⟩
theorem zm_RX4_322 : zMv RX4 322 4 yX4_placeOfLeast cX4_placeOfLeast 4 (some .int) 1 := ⟨⟨TX4, 18, rfl⟩, zw611, zw613, zw20, zw73, zw614, by decide +kernel, by decide +kernel, by decide +kernel⟩
theorem zm_RX4_242 : zMv RX4 242 4 yX4_settleDuel cX4_settleDuel 5 (some .int) 1 := ⟨⟨TX4, 18, rfl⟩, zw607, zw609, zw19, zw73, zw610, by decide +kernel, by decide +kernel, by decide +kernel⟩
theorem zm_RX4_245 : zMv RX4 245 4 yX4_arePactOf cX4_arePactOf 4 (some .boolean) 3 := ⟨⟨TX4, 18, rfl⟩, zw623, zw625, zw22, zw73, zw626, by decide +kernel, by decide +kernel, by decide +kernel⟩
theorem zm_RX4_249 : zMs RX4 249 yJ6_bitCount_0f7a4 cJ6_bitCount_0f7a4 1 (some .int) 1 := ⟨zw631, zw632, zw82, zw633, by decide +kernel, by decide +kernel, by decide +kernel⟩
theorem zm_RX4_254 : zMv RX4 254 4 yX4_runTrial cX4_runTrial 3 none 2 := ⟨⟨TX4, 18, rfl⟩, zw641, zw643, zw23, zw73, zw644, by decide +kernel, by decide +kernel, by decide +kernel⟩
theorem zm_RX4_261 : zMv RX4 261 1 yX1_apart cX1_apart 5 (some .int) 0 := ⟨⟨TX1, 12, rfl⟩, zw649, zw650, zw651, zw75, zw652, by decide +kernel, by decide +kernel, by decide +kernel⟩
theorem zm_RX4_264 : zMv RX4 264 3 yX3_fillFrom cX3_fillFrom 4 none 2 := ⟨⟨TX3, 2, rfl⟩, zw656, zw657, zw658, zw76, zw659, by decide +kernel, by decide +kernel, by decide +kernel⟩
theorem zm_RX4_331 : zMv RX4 331 3 yX3_add cX3_add 2 none 1 := ⟨⟨TX3, 2, rfl⟩, zw673, zw662, zw663, zw76, zw664, by decide +kernel, by decide +kernel, by decide +kernel⟩
theorem zm_RX4_267 : zMv RX4 267 4 yX4_notePassers cX4_notePassers 6 (some .int) 3 := ⟨⟨TX4, 18, rfl⟩, zw669, zw671, zw24, zw73, zw672, by decide +kernel, by decide +kernel, by decide +kernel⟩
theorem zm_RX4_334 : zMv RX4 334 3 yX3_placeOf cX3_placeOf 3 (some .int) 1 := ⟨⟨TX3, 2, rfl⟩, zw685, zw686, zw687, zw76, zw688, by decide +kernel, by decide +kernel, by decide +kernel⟩
theorem zm_RX4_271 : zMv RX4 271 3 yX3_runnersIn cX3_runnersIn 5 (some .int) 1 := ⟨⟨TX3, 2, rfl⟩, zw678, zw679, zw680, zw76, zw681, by decide +kernel, by decide +kernel, by decide +kernel⟩
theorem zm_RX4_274 : zMs RX4 274 yX4_overtakenBetween cX4_overtakenBetween 5 (some .int) 2 := ⟨zw682, zw683, zw73, zw684, by decide +kernel, by decide +kernel, by decide +kernel⟩
theorem zm_RX4_278 : zMv RX4 278 4 yX4_breathByLot cX4_breathByLot 3 (some .int) 2 := ⟨⟨TX4, 18, rfl⟩, zw693, zw695, zw25, zw73, zw696, by decide +kernel, by decide +kernel, by decide +kernel⟩
theorem zm_RX4_291 : zMv RX4 291 0 yX0_goats cX0_goats 3 (some .int) 0 := ⟨⟨TX0, 8, rfl⟩, zw722, zw723, zw724, zw74, zw725, by decide +kernel, by decide +kernel, by decide +kernel⟩
theorem zm_RX4_294 : zMv RX4 294 4 yX4_keptCount cX4_keptCount 3 (some .int) 0 := ⟨⟨TX4, 18, rfl⟩, zw727, zw729, zw26, zw73, zw730, by decide +kernel, by decide +kernel, by decide +kernel⟩
theorem zm_RX4_297 : zMs RX4 297 yX4_thereAmong cX4_thereAmong 3 (some .int) 1 := ⟨zw731, zw732, zw73, zw733, by decide +kernel, by decide +kernel, by decide +kernel⟩
theorem zm_RX4_312 : zMv RX4 312 3 yX3_digestInto cX3_digestInto 6 (some .long) 1 := ⟨⟨TX3, 2, rfl⟩, zw753, zw754, zw755, zw76, zw756, by decide +kernel, by decide +kernel, by decide +kernel⟩
theorem zm_RX4_308 : zMv RX4 308 4 yX4_digestRunner cX4_digestRunner 7 (some .long) 2 := ⟨⟨TX4, 18, rfl⟩, zw749, zw751, zw27, zw73, zw752, by decide +kernel, by decide +kernel, by decide +kernel⟩
theorem zm_RX4_305 : zMv RX4 305 4 yX4_count cX4_count 2 (some .int) 1 := ⟨⟨TX4, 18, rfl⟩, zw748, zw719, zw720, zw73, zw721, by decide +kernel, by decide +kernel, by decide +kernel⟩
theorem zm_RX5_86 : zMs RX5 86 yX5_in cX5_in 3 (some .boolean) 3 := ⟨zw887, zw888, zw78, zw889, by decide +kernel, by decide +kernel, by decide +kernel⟩
theorem zm_RX5_96 : zMs RX5 96 yX5_isRow cX5_isRow 1 (some .boolean) 1 := ⟨zw906, zw907, zw78, zw908, by decide +kernel, by decide +kernel, by decide +kernel⟩
theorem zm_RX5_100 : zMv RX5 100 5 yX5_meets cX5_meets 2 (some .int) 1 := ⟨⟨TX5, 37, rfl⟩, zw909, zw911, zw28, zw78, zw912, by decide +kernel, by decide +kernel, by decide +kernel⟩
theorem zm_RX5_104 : zMv RX5 104 5 yX5_rowAt cX5_rowAt 3 (some .int) 2 := ⟨⟨TX5, 37, rfl⟩, zw917, zw919, zw29, zw78, zw920, by decide +kernel, by decide +kernel, by decide +kernel⟩
theorem zm_RX5_108 : zMv RX5 108 5 yX5_tells cX5_tells 3 (some .int) 2 := ⟨⟨TX5, 37, rfl⟩, zw921, zw923, zw30, zw78, zw924, by decide +kernel, by decide +kernel, by decide +kernel⟩
theorem zm_RX5_111 : zMs RX5 111 yX5_isText cX5_isText 1 (some .boolean) 1 := ⟨zw945, zw946, zw78, zw947, by decide +kernel, by decide +kernel, by decide +kernel⟩
theorem zm_RX5_117 : zMv RX5 117 5 yX5_byteAt cX5_byteAt 3 (some .int) 2 := ⟨⟨TX5, 37, rfl⟩, zw960, zw962, zw32, zw78, zw963, by decide +kernel, by decide +kernel, by decide +kernel⟩
theorem zm_RX5_123 : zMs RX5 123 yX5_slopeOf cX5_slopeOf 1 (some .int) 1 := ⟨zw968, zw969, zw78, zw970, by decide +kernel, by decide +kernel, by decide +kernel⟩
theorem zm_RX5_132 : zMs RX5 132 yX5_paceOf cX5_paceOf 1 (some .int) 1 := ⟨zw978, zw979, zw78, zw980, by decide +kernel, by decide +kernel, by decide +kernel⟩
theorem zm_RX5_126 : zMs RX5 126 yX5_kindOf cX5_kindOf 1 (some .int) 1 := ⟨zw975, zw976, zw78, zw977, by decide +kernel, by decide +kernel, by decide +kernel⟩
theorem zm_RX5_138 : zMv RX5 138 5 yX5_readsRunner cX5_readsRunner 5 (some .boolean) 1 := ⟨⟨TX5, 37, rfl⟩, zw971, zw973, zw34, zw78, zw974, by decide +kernel, by decide +kernel, by decide +kernel⟩
theorem zm_RX5_135 : zMv RX5 135 5 yX5_readsRoad cX5_readsRoad 2 (some .boolean) 1 := ⟨⟨TX5, 37, rfl⟩, zw964, zw966, zw33, zw78, zw967, by decide +kernel, by decide +kernel, by decide +kernel⟩
theorem zm_RX5_141 : zMv RX5 141 5 yX5_faultOf cX5_faultOf 2 (some .int) 1 := ⟨⟨TX5, 37, rfl⟩, zw956, zw958, zw31, zw78, zw959, by decide +kernel, by decide +kernel, by decide +kernel⟩
theorem zm_RX5_182 : zMv RX5 182 5 yX5_put_ cX5_put_ 3 none 2 := ⟨⟨TX5, 37, rfl⟩, zw993, zw995, zw37, zw78, zw996, by decide +kernel, by decide +kernel, by decide +kernel⟩
theorem zm_RX5_186 : zMv RX5 186 5 yX5_starts cX5_starts 4 none 3 := ⟨⟨TX5, 37, rfl⟩, zw997, zw999, zw38, zw78, zw1000, by decide +kernel, by decide +kernel, by decide +kernel⟩
theorem zm_RX5_153 : zMv RX5 153 5 yX5_look cX5_look 2 none 1 := ⟨⟨TX5, 37, rfl⟩, zw985, zw987, zw35, zw78, zw988, by decide +kernel, by decide +kernel, by decide +kernel⟩
theorem zm_RX5_157 : zMv RX5 157 5 yX5_begins cX5_begins 2 none 0 := ⟨⟨TX5, 37, rfl⟩, zw989, zw991, zw36, zw78, zw992, by decide +kernel, by decide +kernel, by decide +kernel⟩
theorem zm_RX5_160 : zMv RX5 160 5 yX5_isRunner cX5_isRunner 2 (some .boolean) 1 := ⟨⟨TX5, 37, rfl⟩, zw1009, zw1011, zw39, zw78, zw1012, by decide +kernel, by decide +kernel, by decide +kernel⟩
theorem zm_RX5_163 : zMv RX5 163 5 yX5_aboutTells cX5_aboutTells 3 (some .int) 2 := ⟨⟨TX5, 37, rfl⟩, zw1013, zw1015, zw40, zw78, zw1016, by decide +kernel, by decide +kernel, by decide +kernel⟩
theorem zm_RX5_176 : zMv RX5 176 5 yX5_pacesOf cX5_pacesOf 5 (some .int) 2 := ⟨⟨TX5, 37, rfl⟩, zw1037, zw1039, zw44, zw78, zw1040, by decide +kernel, by decide +kernel, by decide +kernel⟩
theorem zm_RX5_172 : zMv RX5 172 5 yX5_steepYards cX5_steepYards 3 (some .int) 0 := ⟨⟨TX5, 37, rfl⟩, zw1033, zw1035, zw43, zw78, zw1036, by decide +kernel, by decide +kernel, by decide +kernel⟩
theorem zm_RX5_169 : zMv RX5 169 5 yX5_isOx cX5_isOx 2 (some .boolean) 1 := ⟨⟨TX5, 37, rfl⟩, zw1029, zw1031, zw42, zw78, zw1032, by decide +kernel, by decide +kernel, by decide +kernel⟩
theorem zm_RX5_166 : zMv RX5 166 5 yX5_isGoat cX5_isGoat 2 (some .boolean) 1 := ⟨⟨TX5, 37, rfl⟩, zw1025, zw1027, zw41, zw78, zw1028, by decide +kernel, by decide +kernel, by decide +kernel⟩
theorem zm_RX5_190 : zMv RX5 190 5 yX5_v cX5_v 2 (some .int) 1 := ⟨⟨TX5, 37, rfl⟩, zw1065, zw1067, zw47, zw78, zw1068, by decide +kernel, by decide +kernel, by decide +kernel⟩
theorem zm_RX5_193 : zMv RX5 193 5 yX5_isDone cX5_isDone 2 (some .boolean) 1 := ⟨⟨TX5, 37, rfl⟩, zw1073, zw1075, zw49, zw78, zw1076, by decide +kernel, by decide +kernel, by decide +kernel⟩
theorem zm_RX5_196 : zMv RX5 196 5 yX5_doneMany cX5_doneMany 3 (some .int) 0 := ⟨⟨TX5, 37, rfl⟩, zw1069, zw1071, zw48, zw78, zw1072, by decide +kernel, by decide +kernel, by decide +kernel⟩
theorem zm_RX5_202 : zMs RX5 202 yX5_lesser cX5_lesser 2 (some .int) 2 := ⟨zw1093, zw1094, zw78, zw1095, by decide +kernel, by decide +kernel, by decide +kernel⟩
theorem zm_RX5_211 : zMv RX5 211 5 yX5_passes cX5_passes 5 none 3 := ⟨⟨TX5, 37, rfl⟩, zw1096, zw1098, zw54, zw78, zw1099, by decide +kernel, by decide +kernel, by decide +kernel⟩
theorem zm_RX5_208 : zMv RX5 208 5 yX5_breathBy cX5_breathBy 6 (some .int) 2 := ⟨⟨TX5, 37, rfl⟩, zw1089, zw1091, zw53, zw78, zw1092, by decide +kernel, by decide +kernel, by decide +kernel⟩
theorem zm_RX5_205 : zMv RX5 205 5 yX5_wanted cX5_wanted 3 (some .int) 1 := ⟨⟨TX5, 37, rfl⟩, zw1085, zw1087, zw52, zw78, zw1088, by decide +kernel, by decide +kernel, by decide +kernel⟩
theorem zm_RX5_214 : zMv RX5 214 5 yX5_goesOn cX5_goesOn 8 none 1 := ⟨⟨TX5, 37, rfl⟩, zw1081, zw1083, zw51, zw78, zw1084, by decide +kernel, by decide +kernel, by decide +kernel⟩
theorem zm_RX5_217 : zMv RX5 217 5 yX5_isEnd cX5_isEnd 1 (some .boolean) 0 := ⟨⟨TX5, 37, rfl⟩, zw1061, zw1063, zw46, zw78, zw1064, by decide +kernel, by decide +kernel, by decide +kernel⟩
theorem zm_RX5_221 : zMv RX5 221 5 yX5_step cX5_step 2 none 0 := ⟨⟨TX5, 37, rfl⟩, zw1077, zw1079, zw50, zw78, zw1080, by decide +kernel, by decide +kernel, by decide +kernel⟩
theorem zm_RX5_224 : zMv RX5 224 5 yX5_noChoices cX5_noChoices 2 none 0 := ⟨⟨TX5, 37, rfl⟩, zw1057, zw1059, zw45, zw78, zw1060, by decide +kernel, by decide +kernel, by decide +kernel⟩
theorem zm_RX5_227 : zMv RX5 227 5 yX5_isAhead cX5_isAhead 3 (some .boolean) 2 := ⟨⟨TX5, 37, rfl⟩, zw1112, zw1114, zw57, zw78, zw1115, by decide +kernel, by decide +kernel, by decide +kernel⟩
theorem zm_RX5_231 : zMv RX5 231 5 yX5_rankOf cX5_rankOf 4 (some .int) 1 := ⟨⟨TX5, 37, rfl⟩, zw1108, zw1110, zw56, zw78, zw1111, by decide +kernel, by decide +kernel, by decide +kernel⟩
theorem zm_RX5_234 : zMv RX5 234 5 yX5_raceTells cX5_raceTells 3 (some .int) 2 := ⟨⟨TX5, 37, rfl⟩, zw1104, zw1106, zw55, zw78, zw1107, by decide +kernel, by decide +kernel, by decide +kernel⟩
theorem zm_RX5_237 : zMv RX5 237 5 yX5_copyRace cX5_copyRace 4 none 2 := ⟨⟨TX5, 37, rfl⟩, zw1128, zw1130, zw58, zw78, zw1131, by decide +kernel, by decide +kernel, by decide +kernel⟩
theorem zm_RX5_240 : zMv RX5 240 5 yX5_toEnd cX5_toEnd 1 none 0 := ⟨⟨TX5, 37, rfl⟩, zw1144, zw1146, zw60, zw78, zw1147, by decide +kernel, by decide +kernel, by decide +kernel⟩
theorem zm_RX5_243 : zMv RX5 243 5 yX5_layEnd cX5_layEnd 1 none 0 := ⟨⟨TX5, 37, rfl⟩, zw1140, zw1142, zw59, zw78, zw1143, by decide +kernel, by decide +kernel, by decide +kernel⟩
theorem zm_RX5_252 : zMs RX5 252 yX5_powerOf cX5_powerOf 4 (some .int) 2 := ⟨zw1167, zw1168, zw78, zw1169, by decide +kernel, by decide +kernel, by decide +kernel⟩
theorem zm_RX5_255 : zMv RX5 255 5 yX5_layChoices cX5_layChoices 6 none 3 := ⟨⟨TX5, 37, rfl⟩, zw1170, zw1172, zw62, zw78, zw1173, by decide +kernel, by decide +kernel, by decide +kernel⟩
theorem zm_RX5_246 : zMs RX5 246 yX5_isMany cX5_isMany 1 (some .boolean) 1 := ⟨zw1160, zw1161, zw78, zw1162, by decide +kernel, by decide +kernel, by decide +kernel⟩
theorem zm_RX5_249 : zMv RX5 249 5 yX5_choicesBegin cX5_choicesBegin 1 none 0 := ⟨⟨TX5, 37, rfl⟩, zw1163, zw1165, zw61, zw78, zw1166, by decide +kernel, by decide +kernel, by decide +kernel⟩
theorem zm_RX5_258 : zMv RX5 258 5 yX5_fraction cX5_fraction 12 (some .int) 3 := ⟨⟨TX5, 37, rfl⟩, zw1178, zw1180, zw63, zw78, zw1181, by decide +kernel, by decide +kernel, by decide +kernel⟩
theorem zm_RX5_262 : zMv RX5 262 5 yX5_layBoth cX5_layBoth 7 none 4 := ⟨⟨TX5, 37, rfl⟩, zw1186, zw1188, zw64, zw78, zw1189, by decide +kernel, by decide +kernel, by decide +kernel⟩
theorem zm_RX5_272 : zMv RX5 272 5 yX5_layPact cX5_layPact 6 none 4 := ⟨⟨TX5, 37, rfl⟩, zw1194, zw1196, zw65, zw78, zw1197, by decide +kernel, by decide +kernel, by decide +kernel⟩
theorem zm_RX5_275 : zMs RX5 275 yX5_bits cX5_bits 3 (some .int) 1 := ⟨zw1202, zw1203, zw78, zw1204, by decide +kernel, by decide +kernel, by decide +kernel⟩
theorem zm_RX5_278 : zMv RX5 278 5 yX5_layWhole cX5_layWhole 1 none 0 := ⟨⟨TX5, 37, rfl⟩, zw1209, zw1211, zw66, zw78, zw1212, by decide +kernel, by decide +kernel, by decide +kernel⟩
theorem zm_RX5_281 : zMs RX5 281 yX5_greater cX5_greater 2 (some .int) 2 := ⟨zw1217, zw1218, zw78, zw1219, by decide +kernel, by decide +kernel, by decide +kernel⟩
theorem zm_RX5_284 : zMs RX5 284 yX5_has cX5_has 2 (some .boolean) 2 := ⟨zw1224, zw1225, zw78, zw1226, by decide +kernel, by decide +kernel, by decide +kernel⟩
theorem zm_RX5_290 : zMv RX5 290 5 yX5_placeIn cX5_placeIn 4 (some .int) 2 := ⟨⟨TX5, 37, rfl⟩, zw1235, zw1237, zw68, zw78, zw1238, by decide +kernel, by decide +kernel, by decide +kernel⟩
theorem zm_RX5_287 : zMv RX5 287 5 yX5_runnersIn cX5_runnersIn 5 (some .int) 1 := ⟨⟨TX5, 37, rfl⟩, zw1231, zw1233, zw67, zw78, zw1234, by decide +kernel, by decide +kernel, by decide +kernel⟩
theorem zm_RX5_300 : zMv RX5 300 5 yX5_counted cX5_counted 4 (some .int) 1 := ⟨⟨TX5, 37, rfl⟩, zw1255, zw1257, zw69, zw78, zw1258, by decide +kernel, by decide +kernel, by decide +kernel⟩
theorem zm_RX5_308 : zMv RX5 308 5 yX5_mix cX5_mix 3 none 1 := ⟨⟨TX5, 37, rfl⟩, zw1264, zw1266, zw70, zw78, zw1267, by decide +kernel, by decide +kernel, by decide +kernel⟩
theorem zm_RX5_316 : zMv RX5 316 5 yX5_mixRace cX5_mixRace 3 none 0 := ⟨⟨TX5, 37, rfl⟩, zw1269, zw1271, zw71, zw78, zw1272, by decide +kernel, by decide +kernel, by decide +kernel⟩
theorem zm_RL_13 : zMv RL 13 4 yX4_row cX4_row 3 (some .int) 2 := ⟨⟨TX4, 18, rfl⟩, zw267, zw268, zw269, zw73, zw270, by decide +kernel, by decide +kernel, by decide +kernel⟩
theorem zm_RL_17 : zMv RL 17 5 yX5_row cX5_row 4 (some .int) 2 := ⟨⟨TX5, 37, rfl⟩, zw902, zw903, zw904, zw78, zw905, by decide +kernel, by decide +kernel, by decide +kernel⟩
theorem zm_RL_18 : zMv RL 18 4 yX4_lay cX4_lay 5 (some .int) 3 := ⟨⟨TX4, 18, rfl⟩, zw284, zw285, zw286, zw73, zw287, by decide +kernel, by decide +kernel, by decide +kernel⟩
theorem zm_RL_22 : zMv RL 22 5 yX5_lay cX5_lay 5 (some .int) 3 := ⟨⟨TX5, 37, rfl⟩, zw913, zw914, zw915, zw78, zw916, by decide +kernel, by decide +kernel, by decide +kernel⟩
theorem zm_RL_23 : zMv RL 23 4 yX4_at cX4_at 4 (some .int) 2 := ⟨⟨TX4, 18, rfl⟩, zw304, zw305, zw306, zw73, zw307, by decide +kernel, by decide +kernel, by decide +kernel⟩
theorem zm_RL_26 : zMv RL 26 5 yX5_at cX5_at 3 (some .int) 2 := ⟨⟨TX5, 37, rfl⟩, zw925, zw926, zw927, zw78, zw928, by decide +kernel, by decide +kernel, by decide +kernel⟩
theorem zm_RL_27 : zMv RL 27 4 yX4_tear cX4_tear 3 (some .int) 1 := ⟨⟨TX4, 18, rfl⟩, zw308, zw309, zw310, zw73, zw311, by decide +kernel, by decide +kernel, by decide +kernel⟩
theorem zm_RL_31 : zMv RL 31 5 yX5_tear cX5_tear 2 (some .int) 1 := ⟨⟨TX5, 37, rfl⟩, zw929, zw930, zw931, zw78, zw932, by decide +kernel, by decide +kernel, by decide +kernel⟩
theorem zm_RL_32 : zMv RL 32 4 yX4_copy cX4_copy 6 (some .int) 5 := ⟨⟨TX4, 18, rfl⟩, zw316, zw317, zw318, zw73, zw319, by decide +kernel, by decide +kernel, by decide +kernel⟩
theorem zm_RL_36 : zMv RL 36 5 yX5_copy cX5_copy 7 (some .int) 5 := ⟨⟨TX5, 37, rfl⟩, zw933, zw934, zw935, zw78, zw936, by decide +kernel, by decide +kernel, by decide +kernel⟩
theorem zm_RL_37 : zMv RL 37 4 yX4_mean cX4_mean 4 (some .int) 1 := ⟨⟨TX4, 18, rfl⟩, zw330, zw331, zw332, zw73, zw333, by decide +kernel, by decide +kernel, by decide +kernel⟩
theorem zm_RL_40 : zMv RL 40 5 yX5_mean cX5_mean 5 (some .int) 1 := ⟨⟨TX5, 37, rfl⟩, zw937, zw938, zw939, zw78, zw940, by decide +kernel, by decide +kernel, by decide +kernel⟩
theorem zm_RL_41 : zMv RL 41 4 yX4_text cX4_text 3 (some .int) 2 := ⟨⟨TX4, 18, rfl⟩, zw338, zw339, zw340, zw73, zw341, by decide +kernel, by decide +kernel, by decide +kernel⟩
theorem zm_RL_44 : zMv RL 44 5 yX5_text cX5_text 4 (some .int) 2 := ⟨⟨TX5, 37, rfl⟩, zw941, zw942, zw943, zw78, zw944, by decide +kernel, by decide +kernel, by decide +kernel⟩
theorem zm_RL_45 : zMv RL 45 4 yX4_put cX4_put 6 (some .int) 3 := ⟨⟨TX4, 18, rfl⟩, zw342, zw343, zw344, zw73, zw345, by decide +kernel, by decide +kernel, by decide +kernel⟩
theorem zm_RL_48 : zMv RL 48 5 yX5_put cX5_put 5 (some .int) 3 := ⟨⟨TX5, 37, rfl⟩, zw948, zw949, zw950, zw78, zw951, by decide +kernel, by decide +kernel, by decide +kernel⟩
theorem zm_RL_49 : zMv RL 49 4 yX4_fault cX4_fault 3 (some .int) 1 := ⟨⟨TX4, 18, rfl⟩, zw346, zw347, zw348, zw73, zw349, by decide +kernel, by decide +kernel, by decide +kernel⟩
theorem zm_RL_52 : zMv RL 52 5 yX5_fault cX5_fault 2 (some .int) 1 := ⟨⟨TX5, 37, rfl⟩, zw952, zw953, zw954, zw78, zw955, by decide +kernel, by decide +kernel, by decide +kernel⟩
theorem zm_RL_53 : zMv RL 53 4 yX4_hill cX4_hill 5 (some .int) 1 := ⟨⟨TX4, 18, rfl⟩, zw405, zw406, zw407, zw73, zw408, by decide +kernel, by decide +kernel, by decide +kernel⟩
theorem zm_RL_56 : zMv RL 56 5 yX5_hill cX5_hill 4 (some .int) 1 := ⟨⟨TX5, 37, rfl⟩, zw981, zw982, zw983, zw78, zw984, by decide +kernel, by decide +kernel, by decide +kernel⟩
theorem zm_RL_57 : zMv RL 57 4 yX4_road cX4_road 2 (some .int) 1 := ⟨⟨TX4, 18, rfl⟩, zw420, zw421, zw422, zw73, zw423, by decide +kernel, by decide +kernel, by decide +kernel⟩
theorem zm_RL_60 : zMv RL 60 5 yX5_road cX5_road 2 (some .int) 1 := ⟨⟨TX5, 37, rfl⟩, zw1001, zw1002, zw1003, zw78, zw1004, by decide +kernel, by decide +kernel, by decide +kernel⟩
theorem zm_RL_61 : zMv RL 61 4 yX4_about cX4_about 3 (some .int) 2 := ⟨⟨TX4, 18, rfl⟩, zw424, zw425, zw426, zw73, zw427, by decide +kernel, by decide +kernel, by decide +kernel⟩
theorem zm_RL_64 : zMv RL 64 5 yX5_about cX5_about 3 (some .int) 2 := ⟨⟨TX5, 37, rfl⟩, zw1005, zw1006, zw1007, zw78, zw1008, by decide +kernel, by decide +kernel, by decide +kernel⟩
theorem zm_RL_65 : zMv RL 65 4 yX4_pace cX4_pace 3 (some .int) 2 := ⟨⟨TX4, 18, rfl⟩, zw436, zw437, zw438, zw73, zw439, by decide +kernel, by decide +kernel, by decide +kernel⟩
theorem zm_RL_68 : zMv RL 68 5 yX5_pace cX5_pace 3 (some .int) 2 := ⟨⟨TX5, 37, rfl⟩, zw1017, zw1018, zw1019, zw78, zw1020, by decide +kernel, by decide +kernel, by decide +kernel⟩
theorem zm_RL_69 : zMv RL 69 4 yX4_mark cX4_mark 3 (some .int) 2 := ⟨⟨TX4, 18, rfl⟩, zw444, zw445, zw446, zw73, zw447, by decide +kernel, by decide +kernel, by decide +kernel⟩
theorem zm_RL_72 : zMv RL 72 5 yX5_mark cX5_mark 3 (some .int) 2 := ⟨⟨TX5, 37, rfl⟩, zw1021, zw1022, zw1023, zw78, zw1024, by decide +kernel, by decide +kernel, by decide +kernel⟩
theorem zm_RL_73 : zMv RL 73 4 yX4_head cX4_head 4 (some .int) 2 := ⟨⟨TX4, 18, rfl⟩, zw460, zw461, zw462, zw73, zw463, by decide +kernel, by decide +kernel, by decide +kernel⟩
theorem zm_RL_76 : zMv RL 76 5 yX5_head cX5_head 4 (some .int) 2 := ⟨⟨TX5, 37, rfl⟩, zw1041, zw1042, zw1043, zw78, zw1044, by decide +kernel, by decide +kernel, by decide +kernel⟩
theorem zm_RL_77 : zMv RL 77 4 yX4_law cX4_law 3 (some .int) 1 := ⟨⟨TX4, 18, rfl⟩, zw464, zw465, zw466, zw73, zw467, by decide +kernel, by decide +kernel, by decide +kernel⟩
theorem zm_RL_80 : zMv RL 80 5 yX5_law cX5_law 3 (some .int) 1 := ⟨⟨TX5, 37, rfl⟩, zw1045, zw1046, zw1047, zw78, zw1048, by decide +kernel, by decide +kernel, by decide +kernel⟩
theorem zm_RL_81 : zMv RL 81 4 yX4_begin cX4_begin 1 (some .int) 0 := ⟨⟨TX4, 18, rfl⟩, zw468, zw469, zw470, zw73, zw471, by decide +kernel, by decide +kernel, by decide +kernel⟩
theorem zm_RL_85 : zMv RL 85 5 yX5_begin cX5_begin 1 (some .int) 0 := ⟨⟨TX5, 37, rfl⟩, zw1049, zw1050, zw1051, zw78, zw1052, by decide +kernel, by decide +kernel, by decide +kernel⟩
theorem zm_RL_86 : zMv RL 86 4 yX4_go cX4_go 3 (some .int) 1 := ⟨⟨TX4, 18, rfl⟩, zw476, zw477, zw478, zw73, zw479, by decide +kernel, by decide +kernel, by decide +kernel⟩
theorem zm_RL_89 : zMv RL 89 5 yX5_go cX5_go 3 (some .int) 1 := ⟨⟨TX5, 37, rfl⟩, zw1053, zw1054, zw1055, zw78, zw1056, by decide +kernel, by decide +kernel, by decide +kernel⟩
theorem zm_RL_90 : zMv RL 90 4 yX4_told cX4_told 3 (some .int) 2 := ⟨⟨TX4, 18, rfl⟩, zw519, zw520, zw521, zw73, zw522, by decide +kernel, by decide +kernel, by decide +kernel⟩
theorem zm_RL_93 : zMv RL 93 5 yX5_told cX5_told 3 (some .int) 2 := ⟨⟨TX5, 37, rfl⟩, zw1100, zw1101, zw1102, zw78, zw1103, by decide +kernel, by decide +kernel, by decide +kernel⟩
theorem zm_RL_94 : zMv RL 94 4 yX4_sack cX4_sack 1 (some .int) 0 := ⟨⟨TX4, 18, rfl⟩, zw535, zw536, zw537, zw73, zw538, by decide +kernel, by decide +kernel, by decide +kernel⟩
theorem zm_RL_97 : zMv RL 97 5 yX5_sack cX5_sack 1 (some .int) 0 := ⟨⟨TX5, 37, rfl⟩, zw1116, zw1117, zw1118, zw78, zw1119, by decide +kernel, by decide +kernel, by decide +kernel⟩
theorem zm_RL_98 : zMv RL 98 4 yX4_passed cX4_passed 2 (some .int) 1 := ⟨⟨TX4, 18, rfl⟩, zw539, zw540, zw541, zw73, zw542, by decide +kernel, by decide +kernel, by decide +kernel⟩
theorem zm_RL_101 : zMv RL 101 5 yX5_passed cX5_passed 2 (some .int) 1 := ⟨⟨TX5, 37, rfl⟩, zw1120, zw1121, zw1122, zw78, zw1123, by decide +kernel, by decide +kernel, by decide +kernel⟩
theorem zm_RL_102 : zMv RL 102 4 yX4_keep cX4_keep 2 (some .int) 1 := ⟨⟨TX4, 18, rfl⟩, zw543, zw544, zw545, zw73, zw546, by decide +kernel, by decide +kernel, by decide +kernel⟩
theorem zm_RL_105 : zMv RL 105 5 yX5_keep cX5_keep 2 (some .int) 1 := ⟨⟨TX5, 37, rfl⟩, zw1124, zw1125, zw1126, zw78, zw1127, by decide +kernel, by decide +kernel, by decide +kernel⟩
theorem zm_RL_106 : zMv RL 106 4 yX4_on cX4_on 2 (some .int) 1 := ⟨⟨TX4, 18, rfl⟩, zw554, zw555, zw556, zw73, zw557, by decide +kernel, by decide +kernel, by decide +kernel⟩
theorem zm_RL_109 : zMv RL 109 5 yX5_on cX5_on 2 (some .int) 1 := ⟨⟨TX5, 37, rfl⟩, zw1132, zw1133, zw1134, zw78, zw1135, by decide +kernel, by decide +kernel, by decide +kernel⟩
theorem zm_RL_110 : zMv RL 110 4 yX4_pays cX4_pays 1 (some .int) 0 := ⟨⟨TX4, 18, rfl⟩, zw558, zw559, zw560, zw73, zw561, by decide +kernel, by decide +kernel, by decide +kernel⟩
theorem zm_RL_113 : zMv RL 113 5 yX5_pays cX5_pays 1 (some .int) 0 := ⟨⟨TX5, 37, rfl⟩, zw1136, zw1137, zw1138, zw78, zw1139, by decide +kernel, by decide +kernel, by decide +kernel⟩
theorem zm_RL_114 : zMv RL 114 4 yX4_ranks cX4_ranks 5 (some .int) 1 := ⟨⟨TX4, 18, rfl⟩, zw572, zw573, zw574, zw73, zw575, by decide +kernel, by decide +kernel, by decide +kernel⟩
theorem zm_RL_117 : zMv RL 117 5 yX5_ranks cX5_ranks 4 (some .int) 1 := ⟨⟨TX5, 37, rfl⟩, zw1148, zw1149, zw1150, zw78, zw1151, by decide +kernel, by decide +kernel, by decide +kernel⟩
theorem zm_RL_118 : zMv RL 118 4 yX4_laws cX4_laws 4 (some .int) 1 := ⟨⟨TX4, 18, rfl⟩, zw577, zw578, zw579, zw73, zw580, by decide +kernel, by decide +kernel, by decide +kernel⟩
theorem zm_RL_121 : zMv RL 121 5 yX5_laws cX5_laws 5 (some .int) 1 := ⟨⟨TX5, 37, rfl⟩, zw1152, zw1153, zw1154, zw78, zw1155, by decide +kernel, by decide +kernel, by decide +kernel⟩
theorem zm_RL_122 : zMv RL 122 4 yX4_best cX4_best 8 (some .int) 2 := ⟨⟨TX4, 18, rfl⟩, zw581, zw582, zw583, zw73, zw584, by decide +kernel, by decide +kernel, by decide +kernel⟩
theorem zm_RL_125 : zMv RL 125 5 yX5_best cX5_best 7 (some .int) 2 := ⟨⟨TX5, 37, rfl⟩, zw1156, zw1157, zw1158, zw78, zw1159, by decide +kernel, by decide +kernel, by decide +kernel⟩
theorem zm_RL_126 : zMv RL 126 4 yX4_free cX4_free 6 (some .int) 2 := ⟨⟨TX4, 18, rfl⟩, zw595, zw596, zw597, zw73, zw598, by decide +kernel, by decide +kernel, by decide +kernel⟩
theorem zm_RL_129 : zMv RL 129 5 yX5_free cX5_free 5 (some .int) 2 := ⟨⟨TX5, 37, rfl⟩, zw1174, zw1175, zw1176, zw78, zw1177, by decide +kernel, by decide +kernel, by decide +kernel⟩
theorem zm_RL_130 : zMv RL 130 4 yX4_duel cX4_duel 6 (some .int) 3 := ⟨⟨TX4, 18, rfl⟩, zw603, zw604, zw605, zw73, zw606, by decide +kernel, by decide +kernel, by decide +kernel⟩
theorem zm_RL_133 : zMv RL 133 5 yX5_duel cX5_duel 13 (some .int) 3 := ⟨⟨TX5, 37, rfl⟩, zw1182, zw1183, zw1184, zw78, zw1185, by decide +kernel, by decide +kernel, by decide +kernel⟩
theorem zm_RL_134 : zMv RL 134 4 yX4_pact cX4_pact 9 (some .int) 4 := ⟨⟨TX4, 18, rfl⟩, zw619, zw620, zw621, zw73, zw622, by decide +kernel, by decide +kernel, by decide +kernel⟩
theorem zm_RL_138 : zMv RL 138 5 yX5_pact cX5_pact 5 (some .int) 4 := ⟨⟨TX5, 37, rfl⟩, zw1190, zw1191, zw1192, zw78, zw1193, by decide +kernel, by decide +kernel, by decide +kernel⟩
theorem zm_RL_139 : zMv RL 139 4 yX4_worth cX4_worth 7 (some .int) 3 := ⟨⟨TX4, 18, rfl⟩, zw627, zw628, zw629, zw73, zw630, by decide +kernel, by decide +kernel, by decide +kernel⟩
theorem zm_RL_142 : zMv RL 142 5 yX5_worth cX5_worth 7 (some .int) 3 := ⟨⟨TX5, 37, rfl⟩, zw1198, zw1199, zw1200, zw78, zw1201, by decide +kernel, by decide +kernel, by decide +kernel⟩
theorem zm_RL_143 : zMv RL 143 4 yX4_start cX4_start 3 (some .int) 1 := ⟨⟨TX4, 18, rfl⟩, zw637, zw638, zw639, zw73, zw640, by decide +kernel, by decide +kernel, by decide +kernel⟩
theorem zm_RL_146 : zMv RL 146 5 yX5_start cX5_start 3 (some .int) 1 := ⟨⟨TX5, 37, rfl⟩, zw1205, zw1206, zw1207, zw78, zw1208, by decide +kernel, by decide +kernel, by decide +kernel⟩
theorem zm_RL_147 : zMv RL 147 4 yX4_fair cX4_fair 7 (some .int) 1 := ⟨⟨TX4, 18, rfl⟩, zw645, zw646, zw647, zw73, zw648, by decide +kernel, by decide +kernel, by decide +kernel⟩
theorem zm_RL_150 : zMv RL 150 5 yX5_fair cX5_fair 9 (some .int) 1 := ⟨⟨TX5, 37, rfl⟩, zw1213, zw1214, zw1215, zw78, zw1216, by decide +kernel, by decide +kernel, by decide +kernel⟩
theorem zm_RL_151 : zMv RL 151 4 yX4_post cX4_post 5 (some .int) 2 := ⟨⟨TX4, 18, rfl⟩, zw665, zw666, zw667, zw73, zw668, by decide +kernel, by decide +kernel, by decide +kernel⟩
theorem zm_RL_154 : zMv RL 154 5 yX5_post cX5_post 7 (some .int) 2 := ⟨⟨TX5, 37, rfl⟩, zw1220, zw1221, zw1222, zw78, zw1223, by decide +kernel, by decide +kernel, by decide +kernel⟩
theorem zm_RL_155 : zMv RL 155 4 yX4_could cX4_could 8 (some .int) 3 := ⟨⟨TX4, 18, rfl⟩, zw674, zw675, zw676, zw73, zw677, by decide +kernel, by decide +kernel, by decide +kernel⟩
theorem zm_RL_158 : zMv RL 158 5 yX5_could cX5_could 9 (some .int) 3 := ⟨⟨TX5, 37, rfl⟩, zw1227, zw1228, zw1229, zw78, zw1230, by decide +kernel, by decide +kernel, by decide +kernel⟩
theorem zm_RL_159 : zMv RL 159 4 yX4_odds cX4_odds 7 (some .int) 1 := ⟨⟨TX4, 18, rfl⟩, zw689, zw690, zw691, zw73, zw692, by decide +kernel, by decide +kernel, by decide +kernel⟩
theorem zm_RL_162 : zMv RL 162 5 yX5_odds cX5_odds 7 (some .int) 1 := ⟨⟨TX5, 37, rfl⟩, zw1239, zw1240, zw1241, zw78, zw1242, by decide +kernel, by decide +kernel, by decide +kernel⟩
theorem zm_RL_163 : zMv RL 163 4 yX4_season cX4_season 8 (some .int) 3 := ⟨⟨TX4, 18, rfl⟩, zw698, zw699, zw700, zw73, zw701, by decide +kernel, by decide +kernel, by decide +kernel⟩
theorem zm_RL_166 : zMv RL 166 5 yX5_season cX5_season 8 (some .int) 3 := ⟨⟨TX5, 37, rfl⟩, zw1243, zw1244, zw1245, zw78, zw1246, by decide +kernel, by decide +kernel, by decide +kernel⟩
theorem zm_RL_167 : zMv RL 167 4 yX4_asked cX4_asked 1 (some .int) 0 := ⟨⟨TX4, 18, rfl⟩, zw706, zw707, zw708, zw73, zw709, by decide +kernel, by decide +kernel, by decide +kernel⟩
theorem zm_RL_170 : zMv RL 170 5 yX5_asked cX5_asked 1 (some .int) 0 := ⟨⟨TX5, 37, rfl⟩, zw890, zw891, zw892, zw78, zw893, by decide +kernel, by decide +kernel, by decide +kernel⟩
theorem zm_RL_171 : zMv RL 171 4 yX4_upper cX4_upper 1 (some .long) 0 := ⟨⟨TX4, 18, rfl⟩, zw710, zw711, zw712, zw73, zw713, by decide +kernel, by decide +kernel, by decide +kernel⟩
theorem zm_RL_175 : zMv RL 175 5 yX5_upper cX5_upper 1 (some .long) 0 := ⟨⟨TX5, 37, rfl⟩, zw894, zw895, zw896, zw78, zw897, by decide +kernel, by decide +kernel, by decide +kernel⟩
theorem zm_RL_176 : zMv RL 176 4 yX4_lower cX4_lower 1 (some .long) 0 := ⟨⟨TX4, 18, rfl⟩, zw714, zw715, zw716, zw73, zw717, by decide +kernel, by decide +kernel, by decide +kernel⟩
theorem zm_RL_179 : zMv RL 179 5 yX5_lower cX5_lower 1 (some .long) 0 := ⟨⟨TX5, 37, rfl⟩, zw898, zw899, zw900, zw78, zw901, by decide +kernel, by decide +kernel, by decide +kernel⟩
theorem zm_RL_180 : zMv RL 180 4 yX4_count cX4_count 2 (some .int) 1 := ⟨⟨TX4, 18, rfl⟩, zw718, zw719, zw720, zw73, zw721, by decide +kernel, by decide +kernel, by decide +kernel⟩
theorem zm_RL_183 : zMv RL 183 5 yX5_count cX5_count 2 (some .int) 1 := ⟨⟨TX5, 37, rfl⟩, zw1251, zw1252, zw1253, zw78, zw1254, by decide +kernel, by decide +kernel, by decide +kernel⟩
theorem zm_RL_184 : zMv RL 184 4 yX4_finding cX4_finding 1 (some .int) 0 := ⟨⟨TX4, 18, rfl⟩, zw734, zw735, zw736, zw73, zw737, by decide +kernel, by decide +kernel, by decide +kernel⟩
theorem zm_RL_187 : zMv RL 187 5 yX5_finding cX5_finding 1 (some .int) 0 := ⟨⟨TX5, 37, rfl⟩, zw879, zw880, zw881, zw78, zw882, by decide +kernel, by decide +kernel, by decide +kernel⟩
theorem zm_RL_188 : zMv RL 188 4 yX4_findings cX4_findings 2 (some .int) 1 := ⟨⟨TX4, 18, rfl⟩, zw738, zw739, zw740, zw73, zw741, by decide +kernel, by decide +kernel, by decide +kernel⟩
theorem zm_RL_191 : zMv RL 191 5 yX5_findings cX5_findings 2 (some .int) 1 := ⟨⟨TX5, 37, rfl⟩, zw883, zw884, zw885, zw78, zw886, by decide +kernel, by decide +kernel, by decide +kernel⟩
theorem zm_RL_192 : zMv RL 192 4 yX4_digest cX4_digest 4 (some .long) 0 := ⟨⟨TX4, 18, rfl⟩, zw742, zw743, zw744, zw73, zw745, by decide +kernel, by decide +kernel, by decide +kernel⟩
theorem zm_RL_195 : zMv RL 195 5 yX5_digest cX5_digest 3 (some .long) 0 := ⟨⟨TX5, 37, rfl⟩, zw1259, zw1260, zw1261, zw78, zw1262, by decide +kernel, by decide +kernel, by decide +kernel⟩
theorem zn_RL_7 : zNl RL 7 4 zdf_4 := ⟨RX4, TX4, 18, tyX4, rfl, zinX4, zw83, zw84, zw73, tyX4_ok, rfl, by decide +kernel, fun _ => rfl⟩
theorem zm_RL_9 : zMi RL 9 yX4_init cX4_init 2 0 := ⟨Or.inl zw85, zw86, zw73, zw87, rfl, by decide +kernel, by decide +kernel, by decide +kernel⟩
theorem zn_RL_10 : zNl RL 10 5 zdf_5 := ⟨RX5, TX5, 37, tyX5, rfl, zinX5, zw759, zw760, zw78, tyX5_ok, rfl, by decide +kernel, fun _ => rfl⟩
theorem zm_RL_12 : zMi RL 12 yX5_init cX5_init 2 0 := ⟨Or.inl zw761, zw762, zw78, zw763, rfl, by decide +kernel, by decide +kernel, by decide +kernel⟩
