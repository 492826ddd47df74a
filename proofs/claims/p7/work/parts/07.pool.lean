theorem zyN_init : zY yN_init wsN_init bN_init 2 none 0 := ⟨⟨_, rfl⟩, by decide +kernel, by decide +kernel, by decide +kernel⟩
theorem zyV_init : zY yV_init wsV_init bV_init 1 none 0 := ⟨⟨_, rfl⟩, by decide +kernel, by decide +kernel, by decide +kernel⟩
theorem zyN_whole : zY yN_whole wsN_whole bN_whole 4 (some .boolean) 2 := ⟨⟨_, rfl⟩, by decide +kernel, by decide +kernel, by decide +kernel⟩
theorem zyN_isRegister : zY yN_isRegister wsN_isRegister bN_isRegister 1 (some .boolean) 1 := ⟨⟨_, rfl⟩, by decide +kernel, by decide +kernel, by decide +kernel⟩
theorem zyV_setWhole : zY yV_setWhole wsV_setWhole bV_setWhole 3 none 1 := ⟨⟨_, rfl⟩, by decide +kernel, by decide +kernel, by decide +kernel⟩
theorem zyN_real : zY yN_real wsN_real bN_real 5 (some .boolean) 3 := ⟨⟨_, rfl⟩, by decide +kernel, by decide +kernel, by decide +kernel⟩
theorem zyV_setReal : zY yV_setReal wsV_setReal bV_setReal 4 none 2 := ⟨⟨_, rfl⟩, by decide +kernel, by decide +kernel, by decide +kernel⟩
theorem zyV_sizeOf : zY yV_sizeOf wsV_sizeOf bV_sizeOf 2 (some .long) 1 := ⟨⟨_, rfl⟩, by decide +kernel, by decide +kernel, by decide +kernel⟩
theorem zyV_setNearest : zY yV_setNearest wsV_setNearest bV_setNearest 12 none 4 := ⟨⟨_, rfl⟩, by decide +kernel, by decide +kernel, by decide +kernel⟩
theorem zyJL_numberOfLeadingZeros : zY yJL_numberOfLeadingZeros wsJL_numberOfLeadingZeros bJL_numberOfLeadingZeros 3 (some .int) 1 := ⟨⟨_, rfl⟩, by decide +kernel, by decide +kernel, by decide +kernel⟩
theorem zyJI_numberOfLeadingZeros : zY yJI_numberOfLeadingZeros wsJI_numberOfLeadingZeros bJI_numberOfLeadingZeros 2 (some .int) 1 := ⟨⟨_, rfl⟩, by decide +kernel, by decide +kernel, by decide +kernel⟩
theorem zyV_dropBits : zY yV_dropBits wsV_dropBits bV_dropBits 11 (some .long) 3 := ⟨⟨_, rfl⟩, by decide +kernel, by decide +kernel, by decide +kernel⟩
theorem zyV_setZero : zY yV_setZero wsV_setZero bV_setZero 1 none 0 := ⟨⟨_, rfl⟩, by decide +kernel, by decide +kernel, by decide +kernel⟩
theorem zyV_setInfinity : zY yV_setInfinity wsV_setInfinity bV_setInfinity 2 none 1 := ⟨⟨_, rfl⟩, by decide +kernel, by decide +kernel, by decide +kernel⟩
theorem zyJL_numberOfTrailingZeros : zY yJL_numberOfTrailingZeros wsJL_numberOfTrailingZeros bJL_numberOfTrailingZeros 3 (some .int) 1 := ⟨⟨_, rfl⟩, by decide +kernel, by decide +kernel, by decide +kernel⟩
theorem zyJI_numberOfTrailingZeros : zY yJI_numberOfTrailingZeros wsJI_numberOfTrailingZeros bJI_numberOfTrailingZeros 2 (some .int) 1 := ⟨⟨_, rfl⟩, by decide +kernel, by decide +kernel, by decide +kernel⟩
theorem zyV_become : zY yV_become wsV_become bV_become 2 none 1 := ⟨⟨_, rfl⟩, by decide +kernel, by decide +kernel, by decide +kernel⟩
theorem zyN_special : zY yN_special wsN_special bN_special 3 (some .boolean) 2 := ⟨⟨_, rfl⟩, by decide +kernel, by decide +kernel, by decide +kernel⟩
theorem zyV_setSpecial : zY yV_setSpecial wsV_setSpecial bV_setSpecial 2 none 1 := ⟨⟨_, rfl⟩, by decide +kernel, by decide +kernel, by decide +kernel⟩
theorem zyN_operate : zY yN_operate wsN_operate bN_operate 6 (some .int) 4 := ⟨⟨_, rfl⟩, by decide +kernel, by decide +kernel, by decide +kernel⟩
theorem zyN_addOrMultiply : zY yN_addOrMultiply wsN_addOrMultiply bN_addOrMultiply 6 (some .int) 1 := ⟨⟨_, rfl⟩, by decide +kernel, by decide +kernel, by decide +kernel⟩
theorem zyN_areWhole : zY yN_areWhole wsN_areWhole bN_areWhole 1 (some .boolean) 0 := ⟨⟨_, rfl⟩, by decide +kernel, by decide +kernel, by decide +kernel⟩
theorem zyN_makeReals : zY yN_makeReals wsN_makeReals bN_makeReals 1 none 0 := ⟨⟨_, rfl⟩, by decide +kernel, by decide +kernel, by decide +kernel⟩
theorem zyV_turnReal : zY yV_turnReal wsV_turnReal bV_turnReal 1 none 0 := ⟨⟨_, rfl⟩, by decide +kernel, by decide +kernel, by decide +kernel⟩
theorem zyV_size : zY yV_size wsV_size bV_size 1 (some .long) 0 := ⟨⟨_, rfl⟩, by decide +kernel, by decide +kernel, by decide +kernel⟩
theorem zyR_multiply : zY yR_multiply wsR_multiply bR_multiply 3 none 2 := ⟨⟨_, rfl⟩, by decide +kernel, by decide +kernel, by decide +kernel⟩
theorem zyR_hasNoNumber : zY yR_hasNoNumber wsR_hasNoNumber bR_hasNoNumber 2 (some .boolean) 2 := ⟨⟨_, rfl⟩, by decide +kernel, by decide +kernel, by decide +kernel⟩
theorem zyV_sign : zY yV_sign wsV_sign bV_sign 1 (some .int) 0 := ⟨⟨_, rfl⟩, by decide +kernel, by decide +kernel, by decide +kernel⟩
theorem zyV_isInfinite : zY yV_isInfinite wsV_isInfinite bV_isInfinite 1 (some .boolean) 0 := ⟨⟨_, rfl⟩, by decide +kernel, by decide +kernel, by decide +kernel⟩
theorem zyJL_signum : zY yJL_signum wsJL_signum bJL_signum 2 (some .int) 1 := ⟨⟨_, rfl⟩, by decide +kernel, by decide +kernel, by decide +kernel⟩
theorem zyR_multiplyFinite : zY yR_multiplyFinite wsR_multiplyFinite bR_multiplyFinite 22 none 3 := ⟨⟨_, rfl⟩, by decide +kernel, by decide +kernel, by decide +kernel⟩
theorem zyV_negate : zY yV_negate wsV_negate bV_negate 1 none 0 := ⟨⟨_, rfl⟩, by decide +kernel, by decide +kernel, by decide +kernel⟩
theorem zyR_add : zY yR_add wsR_add bR_add 2 none 2 := ⟨⟨_, rfl⟩, by decide +kernel, by decide +kernel, by decide +kernel⟩
theorem zyO_ofSizes : zY yO_ofSizes wsO_ofSizes bO_ofSizes 6 (some .int) 2 := ⟨⟨_, rfl⟩, by decide +kernel, by decide +kernel, by decide +kernel⟩
theorem zyJI_compare : zY yJI_compare wsJI_compare bJI_compare 2 (some .int) 2 := ⟨⟨_, rfl⟩, by decide +kernel, by decide +kernel, by decide +kernel⟩
theorem zyJL_compare : zY yJL_compare wsJL_compare bJL_compare 4 (some .int) 2 := ⟨⟨_, rfl⟩, by decide +kernel, by decide +kernel, by decide +kernel⟩
theorem zyR_addSmaller : zY yR_addSmaller wsR_addSmaller bR_addSmaller 14 none 3 := ⟨⟨_, rfl⟩, by decide +kernel, by decide +kernel, by decide +kernel⟩
theorem zyN_divideOrRemain : zY yN_divideOrRemain wsN_divideOrRemain bN_divideOrRemain 2 (some .int) 1 := ⟨⟨_, rfl⟩, by decide +kernel, by decide +kernel, by decide +kernel⟩
theorem zyN_divideOrRemainReal : zY yN_divideOrRemainReal wsN_divideOrRemainReal bN_divideOrRemainReal 2 none 1 := ⟨⟨_, rfl⟩, by decide +kernel, by decide +kernel, by decide +kernel⟩
theorem zyR_remainder : zY yR_remainder wsR_remainder bR_remainder 2 none 2 := ⟨⟨_, rfl⟩, by decide +kernel, by decide +kernel, by decide +kernel⟩
theorem zyR_remainderOfSizes : zY yR_remainderOfSizes wsR_remainderOfSizes bR_remainderOfSizes 5 none 2 := ⟨⟨_, rfl⟩, by decide +kernel, by decide +kernel, by decide +kernel⟩
theorem zyR_remainderAbove : zY yR_remainderAbove wsR_remainderAbove bR_remainderAbove 8 (some .long) 3 := ⟨⟨_, rfl⟩, by decide +kernel, by decide +kernel, by decide +kernel⟩
theorem zyR_divide : zY yR_divide wsR_divide bR_divide 2 none 2 := ⟨⟨_, rfl⟩, by decide +kernel, by decide +kernel, by decide +kernel⟩
theorem zyR_divideByZero : zY yR_divideByZero wsR_divideByZero bR_divideByZero 1 none 1 := ⟨⟨_, rfl⟩, by decide +kernel, by decide +kernel, by decide +kernel⟩
theorem zyR_divideFinite : zY yR_divideFinite wsR_divideFinite bR_divideFinite 13 none 2 := ⟨⟨_, rfl⟩, by decide +kernel, by decide +kernel, by decide +kernel⟩
theorem zyV_roundDown : zY yV_roundDown wsV_roundDown bV_roundDown 1 none 0 := ⟨⟨_, rfl⟩, by decide +kernel, by decide +kernel, by decide +kernel⟩
theorem zyV_floor : zY yV_floor wsV_floor bV_floor 1 (some .long) 0 := ⟨⟨_, rfl⟩, by decide +kernel, by decide +kernel, by decide +kernel⟩
theorem zyJM_floorDiv : zY yJM_floorDiv wsJM_floorDiv bJM_floorDiv 6 (some .long) 2 := ⟨⟨_, rfl⟩, by decide +kernel, by decide +kernel, by decide +kernel⟩
theorem zyJM_floorMod : zY yJM_floorMod wsJM_floorMod bJM_floorMod 6 (some .long) 2 := ⟨⟨_, rfl⟩, by decide +kernel, by decide +kernel, by decide +kernel⟩
theorem zyN_power : zY yN_power wsN_power bN_power 3 (some .int) 0 := ⟨⟨_, rfl⟩, by decide +kernel, by decide +kernel, by decide +kernel⟩
theorem zyV_countsAsWhole : zY yV_countsAsWhole wsV_countsAsWhole bV_countsAsWhole 1 (some .boolean) 0 := ⟨⟨_, rfl⟩, by decide +kernel, by decide +kernel, by decide +kernel⟩
theorem zyV_asWhole : zY yV_asWhole wsV_asWhole bV_asWhole 1 (some .long) 0 := ⟨⟨_, rfl⟩, by decide +kernel, by decide +kernel, by decide +kernel⟩
theorem zyN_raise : zY yN_raise wsN_raise bN_raise 4 none 1 := ⟨⟨_, rfl⟩, by decide +kernel, by decide +kernel, by decide +kernel⟩
theorem zyN_combineBits : zY yN_combineBits wsN_combineBits bN_combineBits 6 (some .int) 1 := ⟨⟨_, rfl⟩, by decide +kernel, by decide +kernel, by decide +kernel⟩
theorem zyN_shiftLeft : zY yN_shiftLeft wsN_shiftLeft bN_shiftLeft 4 (some .long) 2 := ⟨⟨_, rfl⟩, by decide +kernel, by decide +kernel, by decide +kernel⟩
theorem zyN_applyToOne : zY yN_applyToOne wsN_applyToOne bN_applyToOne 2 (some .int) 1 := ⟨⟨_, rfl⟩, by decide +kernel, by decide +kernel, by decide +kernel⟩
theorem zyN_compare : zY yN_compare wsN_compare bN_compare 8 (some .int) 3 := ⟨⟨_, rfl⟩, by decide +kernel, by decide +kernel, by decide +kernel⟩
theorem zyO_of : zY yO_of wsO_of bO_of 2 (some .int) 2 := ⟨⟨_, rfl⟩, by decide +kernel, by decide +kernel, by decide +kernel⟩
theorem zyO_infinityOf : zY yO_infinityOf wsO_infinityOf bO_infinityOf 1 (some .int) 1 := ⟨⟨_, rfl⟩, by decide +kernel, by decide +kernel, by decide +kernel⟩
theorem zyO_ofWhole : zY yO_ofWhole wsO_ofWhole bO_ofWhole 5 (some .int) 2 := ⟨⟨_, rfl⟩, by decide +kernel, by decide +kernel, by decide +kernel⟩
theorem zyO_ofReals : zY yO_ofReals wsO_ofReals bO_ofReals 2 (some .int) 2 := ⟨⟨_, rfl⟩, by decide +kernel, by decide +kernel, by decide +kernel⟩
theorem zyN_kind : zY yN_kind wsN_kind bN_kind 2 (some .int) 1 := ⟨⟨_, rfl⟩, by decide +kernel, by decide +kernel, by decide +kernel⟩
theorem zyN_number : zY yN_number wsN_number bN_number 2 (some .long) 1 := ⟨⟨_, rfl⟩, by decide +kernel, by decide +kernel, by decide +kernel⟩
theorem zyN_exponent : zY yN_exponent wsN_exponent bN_exponent 2 (some .int) 1 := ⟨⟨_, rfl⟩, by decide +kernel, by decide +kernel, by decide +kernel⟩
theorem zyN_sum : zY yN_sum wsN_sum bN_sum 5 (some .boolean) 3 := ⟨⟨_, rfl⟩, by decide +kernel, by decide +kernel, by decide +kernel⟩
theorem zyN_isRow : zY yN_isRow wsN_isRow bN_isRow 2 (some .boolean) 2 := ⟨⟨_, rfl⟩, by decide +kernel, by decide +kernel, by decide +kernel⟩
theorem zyN_polynomial : zY yN_polynomial wsN_polynomial bN_polynomial 6 (some .boolean) 4 := ⟨⟨_, rfl⟩, by decide +kernel, by decide +kernel, by decide +kernel⟩
theorem zyN_sort : zY yN_sort wsN_sort bN_sort 4 (some .boolean) 2 := ⟨⟨_, rfl⟩, by decide +kernel, by decide +kernel, by decide +kernel⟩
theorem zyN_insert : zY yN_insert wsN_insert bN_insert 5 none 2 := ⟨⟨_, rfl⟩, by decide +kernel, by decide +kernel, by decide +kernel⟩
theorem zyO_goesBefore : zY yO_goesBefore wsO_goesBefore bO_goesBefore 2 (some .boolean) 2 := ⟨⟨_, rfl⟩, by decide +kernel, by decide +kernel, by decide +kernel⟩
theorem zyM_init : zY yM_init wsM_init bM_init 2 none 0 := ⟨⟨_, rfl⟩, by decide +kernel, by decide +kernel, by decide +kernel⟩
theorem zyM_whole : zY yM_whole wsM_whole bM_whole 4 (some .boolean) 2 := ⟨⟨_, rfl⟩, by decide +kernel, by decide +kernel, by decide +kernel⟩
theorem zyM_isRegister : zY yM_isRegister wsM_isRegister bM_isRegister 1 (some .boolean) 1 := ⟨⟨_, rfl⟩, by decide +kernel, by decide +kernel, by decide +kernel⟩
theorem zyM_setWhole : zY yM_setWhole wsM_setWhole bM_setWhole 3 none 1 := ⟨⟨_, rfl⟩, by decide +kernel, by decide +kernel, by decide +kernel⟩
theorem zyM_put : zY yM_put wsM_put bM_put 2 none 1 := ⟨⟨_, rfl⟩, by decide +kernel, by decide +kernel, by decide +kernel⟩
theorem zyM_real : zY yM_real wsM_real bM_real 5 (some .boolean) 3 := ⟨⟨_, rfl⟩, by decide +kernel, by decide +kernel, by decide +kernel⟩
theorem zyM_nearestOf : zY yM_nearestOf wsM_nearestOf bM_nearestOf 6 none 2 := ⟨⟨_, rfl⟩, by decide +kernel, by decide +kernel, by decide +kernel⟩
theorem zyM_nearest : zY yM_nearest wsM_nearest bM_nearest 15 none 3 := ⟨⟨_, rfl⟩, by decide +kernel, by decide +kernel, by decide +kernel⟩
theorem zyM_plain : zY yM_plain wsM_plain bM_plain 4 none 2 := ⟨⟨_, rfl⟩, by decide +kernel, by decide +kernel, by decide +kernel⟩
theorem zyM_setSpecial : zY yM_setSpecial wsM_setSpecial bM_setSpecial 2 none 1 := ⟨⟨_, rfl⟩, by decide +kernel, by decide +kernel, by decide +kernel⟩
theorem zyM_size : zY yM_size wsM_size bM_size 2 (some .long) 1 := ⟨⟨_, rfl⟩, by decide +kernel, by decide +kernel, by decide +kernel⟩
theorem zyM_special : zY yM_special wsM_special bM_special 3 (some .boolean) 2 := ⟨⟨_, rfl⟩, by decide +kernel, by decide +kernel, by decide +kernel⟩
theorem zyM_operate : zY yM_operate wsM_operate bM_operate 6 (some .int) 4 := ⟨⟨_, rfl⟩, by decide +kernel, by decide +kernel, by decide +kernel⟩
theorem zyM_takeA : zY yM_takeA wsM_takeA bM_takeA 2 none 1 := ⟨⟨_, rfl⟩, by decide +kernel, by decide +kernel, by decide +kernel⟩
theorem zyM_takeB : zY yM_takeB wsM_takeB bM_takeB 2 none 1 := ⟨⟨_, rfl⟩, by decide +kernel, by decide +kernel, by decide +kernel⟩
theorem zyM_operation : zY yM_operation wsM_operation bM_operation 3 (some .int) 1 := ⟨⟨_, rfl⟩, by decide +kernel, by decide +kernel, by decide +kernel⟩
theorem zyM_bitwise : zY yM_bitwise wsM_bitwise bM_bitwise 8 (some .int) 1 := ⟨⟨_, rfl⟩, by decide +kernel, by decide +kernel, by decide +kernel⟩
theorem zyM_isWhole : zY yM_isWhole wsM_isWhole bM_isWhole 5 (some .boolean) 3 := ⟨⟨_, rfl⟩, by decide +kernel, by decide +kernel, by decide +kernel⟩
theorem zyM_wholeOf : zY yM_wholeOf wsM_wholeOf bM_wholeOf 5 (some .long) 3 := ⟨⟨_, rfl⟩, by decide +kernel, by decide +kernel, by decide +kernel⟩
theorem zyM_shifted : zY yM_shifted wsM_shifted bM_shifted 4 (some .long) 2 := ⟨⟨_, rfl⟩, by decide +kernel, by decide +kernel, by decide +kernel⟩
theorem zyM_single : zY yM_single wsM_single bM_single 2 (some .int) 1 := ⟨⟨_, rfl⟩, by decide +kernel, by decide +kernel, by decide +kernel⟩
theorem zyM_negative : zY yM_negative wsM_negative bM_negative 1 none 0 := ⟨⟨_, rfl⟩, by decide +kernel, by decide +kernel, by decide +kernel⟩
theorem zyM_floorOfA : zY yM_floorOfA wsM_floorOfA bM_floorOfA 1 none 0 := ⟨⟨_, rfl⟩, by decide +kernel, by decide +kernel, by decide +kernel⟩
theorem zyM_copyA : zY yM_copyA wsM_copyA bM_copyA 1 none 0 := ⟨⟨_, rfl⟩, by decide +kernel, by decide +kernel, by decide +kernel⟩
theorem zyM_roundDown : zY yM_roundDown wsM_roundDown bM_roundDown 1 none 0 := ⟨⟨_, rfl⟩, by decide +kernel, by decide +kernel, by decide +kernel⟩
theorem zyM_realA : zY yM_realA wsM_realA bM_realA 1 none 0 := ⟨⟨_, rfl⟩, by decide +kernel, by decide +kernel, by decide +kernel⟩
theorem zyM_resultToA : zY yM_resultToA wsM_resultToA bM_resultToA 1 none 0 := ⟨⟨_, rfl⟩, by decide +kernel, by decide +kernel, by decide +kernel⟩
theorem zyM_signOf : zY yM_signOf wsM_signOf bM_signOf 3 (some .int) 2 := ⟨⟨_, rfl⟩, by decide +kernel, by decide +kernel, by decide +kernel⟩
theorem zyM_wholes : zY yM_wholes wsM_wholes bM_wholes 2 (some .int) 1 := ⟨⟨_, rfl⟩, by decide +kernel, by decide +kernel, by decide +kernel⟩
theorem zyM_floorQuotient : zY yM_floorQuotient wsM_floorQuotient bM_floorQuotient 6 (some .long) 2 := ⟨⟨_, rfl⟩, by decide +kernel, by decide +kernel, by decide +kernel⟩
theorem zyM_reals : zY yM_reals wsM_reals bM_reals 2 (some .int) 1 := ⟨⟨_, rfl⟩, by decide +kernel, by decide +kernel, by decide +kernel⟩
theorem zyM_realB : zY yM_realB wsM_realB bM_realB 1 none 0 := ⟨⟨_, rfl⟩, by decide +kernel, by decide +kernel, by decide +kernel⟩
theorem zyM_resultToB : zY yM_resultToB wsM_resultToB bM_resultToB 1 none 0 := ⟨⟨_, rfl⟩, by decide +kernel, by decide +kernel, by decide +kernel⟩
theorem zyM_add : zY yM_add wsM_add bM_add 1 none 0 := ⟨⟨_, rfl⟩, by decide +kernel, by decide +kernel, by decide +kernel⟩
theorem zyM_isGreat : zY yM_isGreat wsM_isGreat bM_isGreat 1 (some .boolean) 1 := ⟨⟨_, rfl⟩, by decide +kernel, by decide +kernel, by decide +kernel⟩
theorem zyM_addNumbers : zY yM_addNumbers wsM_addNumbers bM_addNumbers 19 none 0 := ⟨⟨_, rfl⟩, by decide +kernel, by decide +kernel, by decide +kernel⟩
theorem zyM_room : zY yM_room wsM_room bM_room 3 (some .int) 1 := ⟨⟨_, rfl⟩, by decide +kernel, by decide +kernel, by decide +kernel⟩
theorem zyM_down : zY yM_down wsM_down bM_down 5 (some .long) 2 := ⟨⟨_, rfl⟩, by decide +kernel, by decide +kernel, by decide +kernel⟩
theorem zyM_turnB : zY yM_turnB wsM_turnB bM_turnB 1 none 0 := ⟨⟨_, rfl⟩, by decide +kernel, by decide +kernel, by decide +kernel⟩
theorem zyM_multiply : zY yM_multiply wsM_multiply bM_multiply 2 none 0 := ⟨⟨_, rfl⟩, by decide +kernel, by decide +kernel, by decide +kernel⟩
theorem zyM_product : zY yM_product wsM_product bM_product 17 none 2 := ⟨⟨_, rfl⟩, by decide +kernel, by decide +kernel, by decide +kernel⟩
theorem zyM_divide : zY yM_divide wsM_divide bM_divide 3 none 0 := ⟨⟨_, rfl⟩, by decide +kernel, by decide +kernel, by decide +kernel⟩
theorem zyM_quotientBits : zY yM_quotientBits wsM_quotientBits bM_quotientBits 10 none 2 := ⟨⟨_, rfl⟩, by decide +kernel, by decide +kernel, by decide +kernel⟩
theorem zyM_remainder : zY yM_remainder wsM_remainder bM_remainder 3 none 0 := ⟨⟨_, rfl⟩, by decide +kernel, by decide +kernel, by decide +kernel⟩
theorem zyM_restOfSizes : zY yM_restOfSizes wsM_restOfSizes bM_restOfSizes 6 none 0 := ⟨⟨_, rfl⟩, by decide +kernel, by decide +kernel, by decide +kernel⟩
theorem zyM_power : zY yM_power wsM_power bM_power 13 (some .int) 0 := ⟨⟨_, rfl⟩, by decide +kernel, by decide +kernel, by decide +kernel⟩
theorem zyM_compare : zY yM_compare wsM_compare bM_compare 5 (some .int) 3 := ⟨⟨_, rfl⟩, by decide +kernel, by decide +kernel, by decide +kernel⟩
theorem zyM_isEqual : zY yM_isEqual wsM_isEqual bM_isEqual 6 (some .boolean) 0 := ⟨⟨_, rfl⟩, by decide +kernel, by decide +kernel, by decide +kernel⟩
theorem zyM_isLess : zY yM_isLess wsM_isLess bM_isLess 2 (some .boolean) 1 := ⟨⟨_, rfl⟩, by decide +kernel, by decide +kernel, by decide +kernel⟩
theorem zyM_isWholeLess : zY yM_isWholeLess wsM_isWholeLess bM_isWholeLess 9 (some .boolean) 4 := ⟨⟨_, rfl⟩, by decide +kernel, by decide +kernel, by decide +kernel⟩
theorem zyM_isRealLess : zY yM_isRealLess wsM_isRealLess bM_isRealLess 4 (some .boolean) 1 := ⟨⟨_, rfl⟩, by decide +kernel, by decide +kernel, by decide +kernel⟩
theorem zyM_kind : zY yM_kind wsM_kind bM_kind 2 (some .int) 1 := ⟨⟨_, rfl⟩, by decide +kernel, by decide +kernel, by decide +kernel⟩
theorem zyM_number : zY yM_number wsM_number bM_number 2 (some .long) 1 := ⟨⟨_, rfl⟩, by decide +kernel, by decide +kernel, by decide +kernel⟩
theorem zyM_exponent : zY yM_exponent wsM_exponent bM_exponent 2 (some .int) 1 := ⟨⟨_, rfl⟩, by decide +kernel, by decide +kernel, by decide +kernel⟩
theorem zyM_sum : zY yM_sum wsM_sum bM_sum 5 (some .boolean) 3 := ⟨⟨_, rfl⟩, by decide +kernel, by decide +kernel, by decide +kernel⟩
theorem zyM_areRegisters : zY yM_areRegisters wsM_areRegisters bM_areRegisters 2 (some .boolean) 2 := ⟨⟨_, rfl⟩, by decide +kernel, by decide +kernel, by decide +kernel⟩
theorem zyM_polynomial : zY yM_polynomial wsM_polynomial bM_polynomial 6 (some .boolean) 4 := ⟨⟨_, rfl⟩, by decide +kernel, by decide +kernel, by decide +kernel⟩
theorem zyM_sort : zY yM_sort wsM_sort bM_sort 5 (some .boolean) 2 := ⟨⟨_, rfl⟩, by decide +kernel, by decide +kernel, by decide +kernel⟩
theorem zyM_isBefore : zY yM_isBefore wsM_isBefore bM_isBefore 3 (some .boolean) 2 := ⟨⟨_, rfl⟩, by decide +kernel, by decide +kernel, by decide +kernel⟩
theorem zyM_exchange : zY yM_exchange wsM_exchange bM_exchange 3 none 2 := ⟨⟨_, rfl⟩, by decide +kernel, by decide +kernel, by decide +kernel⟩
abbrev V3 : Type := Int32 × Int64 × Int32
def PE (v : V3) : va_E := .inr (0, [.int v.1, .long v.2.1, .int v.2.2])
def PL (LP : List Nat) (f : Nat → V3) : va_W := va_pl LP (fun a => PE (f a))
theorem PL_up {f : Nat → V3} {a : Nat} {v : V3} : va_up (fun b => PE (f b)) a (PE v) = fun b => PE (va_up f a v b) := by
  funext b
  by_cases h : b = a <;> simp [va_up, h]
theorem zp_at {X : va_W} {LP : List Nat} {f : Nat → V3} {a : Nat} (h : a ∈ LP) : ∃ q : Nat, (X ++ PL LP f)[q]? = some (a, .inr (0, [.int (f a).1, .long (f a).2.1, .int (f a).2.2])) := va_pl_get (X := X) (f := fun b => PE (f b)) h
theorem zp_set {A : Nat → Prop} {X : va_W} {LP : List Nat} {f : Nat → V3} {a q : Nat} {v : V3} (hD : va_D A (X ++ PL LP f)) (h : a ∈ LP) (hq : (X ++ PL LP f)[q]? = some (a, .inr (0, [.int (f a).1, .long (f a).2.1, .int (f a).2.2]))) : (X ++ PL LP f).set q (a, PE v) = X ++ PL LP (va_up f a v) := by
  have h1 := va_pl_set (e := PE v) hD h hq
  rw [PL_up] at h1
  exact h1
section ZP
variable {l : Launch} {D : va_G} {own : String} {cc : ByteArray} {nL : Nat} {ret : Option FieldType} {Ts : List Cond} {R : Room} {mc ms : Nat} {post : zP} {isI : Bool} {Z : zZ}
variable {k n pc index a : Nat} {tys : zT} {lv : List (Nat × Value)} {st : List Value} {X : va_W} {LP : List Nat} {f : Nat → V3}
theorem z_pg0 (hZ : zI l D vwCl zNF zNM own cc nL ret Ts R mc ms post isI Z) (h : a ∈ LP) (hw : ∀ x ∈ uwsV, x ∈ Ts) (hlink : Cond.fieldLink own index "MixedNumbers$Value" "kind" "I" ∈ Ts) (hdg : decode cc pc = .ok (.getfield index, 3)) (kk : ∀ v : Int32, v = (f a).1 → Z k n tys (pc + 3) lv (.int v :: st) (X ++ PL LP f)) : Z k n tys pc lv (.ref a :: st) (X ++ PL LP f) := by
  obtain ⟨p, e, s, m, args, below, meth, c, Q, A, hx, hb, hml, hown, hts, hN, hA, hin0, hret, rfl⟩ := hZ
  intro ls H locs hl hK hP hD hS
  obtain ⟨q, hq⟩ := zp_at (X := X) (f := f) h
  exact va_get hx hb hts hw hown hK hP q hq rfl 0 (by decide) (hts _ hlink) (fun _ h9 => h9) rfl hdg (kk _ rfl ls H locs hl hK hP hD hS)
theorem z_pp0 (hZ : zI l D vwCl zNF zNM own cc nL ret Ts R mc ms post isI Z) {x : Int32} (h : a ∈ LP) (hw : ∀ x ∈ uwsV, x ∈ Ts) (hlink : Cond.fieldLink own index "MixedNumbers$Value" "kind" "I" ∈ Ts) (hdg : decode cc pc = .ok (.putfield index, 3)) (kk : ∀ f2 : Nat → V3, f2 = va_up f a (x, (f a).2.1, (f a).2.2) → Z k n tys (pc + 3) lv st (X ++ PL LP f2)) : Z k n tys pc lv (.int x :: .ref a :: st) (X ++ PL LP f) := by
  obtain ⟨p, e, s, m, args, below, meth, c, Q, A, hx, hb, hml, hown, hts, hN, hA, hin0, hret, rfl⟩ := hZ
  intro ls H locs hl hK hP hD hS
  obtain ⟨q, hq⟩ := zp_at (X := X) (f := f) h
  refine va_put hx hb hts hw tyV tyV_ok nmV hown hK hP hD hS q hq rfl 0 (by decide) (hts _ hlink) (fun _ h9 => h9) rfl (tyV_ok 0 (by decide)) rfl rfl (Nat.le_of_ble_eq_true rfl) hdg (fun H locs hP1 hD1 hS => ?_)
  have e9 := zp_set (v := (x, (f a).2.1, (f a).2.2)) hD h hq
  exact kk _ rfl ls H locs hl hK (by rw [← e9]; exact hP1) (by rw [← e9]; exact hD1) hS
theorem z_pg0N (hZ : zI l D vwCl zNF zNM own cc nL ret Ts R mc ms post isI Z) (h : a ∈ LP) (hw : ∀ x ∈ uwsV, x ∈ Ts) {host : String} (hlink : (own, index, "MixedNumbers$Value", "kind", "I", host) ∈ zNF) (hdg : decode cc pc = .ok (.getfield index, 3)) (kk : ∀ v : Int32, v = (f a).1 → Z k n tys (pc + 3) lv (.int v :: st) (X ++ PL LP f)) : Z k n tys pc lv (.ref a :: st) (X ++ PL LP f) := by
  obtain ⟨p, e, s, m, args, below, meth, c, Q, A, hx, hb, hml, hown, hts, hN, hA, hin0, hret, rfl⟩ := hZ
  intro ls H locs hl hK hP hD hS
  obtain ⟨q, hq⟩ := zp_at (X := X) (f := f) h
  exact va_getN hx hb hts hw hown hK hP q hq rfl 0 (by decide) (va_Nw.use rfl (hN.1 _ hlink)) (fun _ h9 => h9) rfl hdg (kk _ rfl ls H locs hl hK hP hD hS)
theorem z_pp0N (hZ : zI l D vwCl zNF zNM own cc nL ret Ts R mc ms post isI Z) {x : Int32} (h : a ∈ LP) (hw : ∀ x ∈ uwsV, x ∈ Ts) {host : String} (hlink : (own, index, "MixedNumbers$Value", "kind", "I", host) ∈ zNF) (hdg : decode cc pc = .ok (.putfield index, 3)) (kk : ∀ f2 : Nat → V3, f2 = va_up f a (x, (f a).2.1, (f a).2.2) → Z k n tys (pc + 3) lv st (X ++ PL LP f2)) : Z k n tys pc lv (.int x :: .ref a :: st) (X ++ PL LP f) := by
  obtain ⟨p, e, s, m, args, below, meth, c, Q, A, hx, hb, hml, hown, hts, hN, hA, hin0, hret, rfl⟩ := hZ
  intro ls H locs hl hK hP hD hS
  obtain ⟨q, hq⟩ := zp_at (X := X) (f := f) h
  refine va_putN hx hb hts hw tyV tyV_ok nmV hown hK hP hD hS q hq rfl 0 (by decide) (va_Nw.use rfl (hN.1 _ hlink)) (fun _ h9 => h9) rfl (tyV_ok 0 (by decide)) rfl rfl (Nat.le_of_ble_eq_true rfl) hdg (fun H locs hP1 hD1 hS => ?_)
  have e9 := zp_set (v := (x, (f a).2.1, (f a).2.2)) hD h hq
  exact kk _ rfl ls H locs hl hK (by rw [← e9]; exact hP1) (by rw [← e9]; exact hD1) hS
theorem z_pg1 (hZ : zI l D vwCl zNF zNM own cc nL ret Ts R mc ms post isI Z) (h : a ∈ LP) (hw : ∀ x ∈ uwsV, x ∈ Ts) (hlink : Cond.fieldLink own index "MixedNumbers$Value" "number" "J" ∈ Ts) (hdg : decode cc pc = .ok (.getfield index, 3)) (kk : ∀ v : Int64, v = (f a).2.1 → Z k n tys (pc + 3) lv (.long v :: st) (X ++ PL LP f)) : Z k n tys pc lv (.ref a :: st) (X ++ PL LP f) := by
  obtain ⟨p, e, s, m, args, below, meth, c, Q, A, hx, hb, hml, hown, hts, hN, hA, hin0, hret, rfl⟩ := hZ
  intro ls H locs hl hK hP hD hS
  obtain ⟨q, hq⟩ := zp_at (X := X) (f := f) h
  exact va_get hx hb hts hw hown hK hP q hq rfl 1 (by decide) (hts _ hlink) (fun _ h9 => h9) rfl hdg (kk _ rfl ls H locs hl hK hP hD hS)
theorem z_pp1 (hZ : zI l D vwCl zNF zNM own cc nL ret Ts R mc ms post isI Z) {x : Int64} (h : a ∈ LP) (hw : ∀ x ∈ uwsV, x ∈ Ts) (hlink : Cond.fieldLink own index "MixedNumbers$Value" "number" "J" ∈ Ts) (hdg : decode cc pc = .ok (.putfield index, 3)) (kk : ∀ f2 : Nat → V3, f2 = va_up f a ((f a).1, x, (f a).2.2) → Z k n tys (pc + 3) lv st (X ++ PL LP f2)) : Z k n tys pc lv (.long x :: .ref a :: st) (X ++ PL LP f) := by
  obtain ⟨p, e, s, m, args, below, meth, c, Q, A, hx, hb, hml, hown, hts, hN, hA, hin0, hret, rfl⟩ := hZ
  intro ls H locs hl hK hP hD hS
  obtain ⟨q, hq⟩ := zp_at (X := X) (f := f) h
  refine va_put hx hb hts hw tyV tyV_ok nmV hown hK hP hD hS q hq rfl 1 (by decide) (hts _ hlink) (fun _ h9 => h9) rfl (tyV_ok 1 (by decide)) rfl rfl (Nat.le_of_ble_eq_true rfl) hdg (fun H locs hP1 hD1 hS => ?_)
  have e9 := zp_set (v := ((f a).1, x, (f a).2.2)) hD h hq
  exact kk _ rfl ls H locs hl hK (by rw [← e9]; exact hP1) (by rw [← e9]; exact hD1) hS
theorem z_pg1N (hZ : zI l D vwCl zNF zNM own cc nL ret Ts R mc ms post isI Z) (h : a ∈ LP) (hw : ∀ x ∈ uwsV, x ∈ Ts) {host : String} (hlink : (own, index, "MixedNumbers$Value", "number", "J", host) ∈ zNF) (hdg : decode cc pc = .ok (.getfield index, 3)) (kk : ∀ v : Int64, v = (f a).2.1 → Z k n tys (pc + 3) lv (.long v :: st) (X ++ PL LP f)) : Z k n tys pc lv (.ref a :: st) (X ++ PL LP f) := by
  obtain ⟨p, e, s, m, args, below, meth, c, Q, A, hx, hb, hml, hown, hts, hN, hA, hin0, hret, rfl⟩ := hZ
  intro ls H locs hl hK hP hD hS
  obtain ⟨q, hq⟩ := zp_at (X := X) (f := f) h
  exact va_getN hx hb hts hw hown hK hP q hq rfl 1 (by decide) (va_Nw.use rfl (hN.1 _ hlink)) (fun _ h9 => h9) rfl hdg (kk _ rfl ls H locs hl hK hP hD hS)
theorem z_pp1N (hZ : zI l D vwCl zNF zNM own cc nL ret Ts R mc ms post isI Z) {x : Int64} (h : a ∈ LP) (hw : ∀ x ∈ uwsV, x ∈ Ts) {host : String} (hlink : (own, index, "MixedNumbers$Value", "number", "J", host) ∈ zNF) (hdg : decode cc pc = .ok (.putfield index, 3)) (kk : ∀ f2 : Nat → V3, f2 = va_up f a ((f a).1, x, (f a).2.2) → Z k n tys (pc + 3) lv st (X ++ PL LP f2)) : Z k n tys pc lv (.long x :: .ref a :: st) (X ++ PL LP f) := by
  obtain ⟨p, e, s, m, args, below, meth, c, Q, A, hx, hb, hml, hown, hts, hN, hA, hin0, hret, rfl⟩ := hZ
  intro ls H locs hl hK hP hD hS
  obtain ⟨q, hq⟩ := zp_at (X := X) (f := f) h
  refine va_putN hx hb hts hw tyV tyV_ok nmV hown hK hP hD hS q hq rfl 1 (by decide) (va_Nw.use rfl (hN.1 _ hlink)) (fun _ h9 => h9) rfl (tyV_ok 1 (by decide)) rfl rfl (Nat.le_of_ble_eq_true rfl) hdg (fun H locs hP1 hD1 hS => ?_)
  have e9 := zp_set (v := ((f a).1, x, (f a).2.2)) hD h hq
  exact kk _ rfl ls H locs hl hK (by rw [← e9]; exact hP1) (by rw [← e9]; exact hD1) hS
theorem z_pg2 (hZ : zI l D vwCl zNF zNM own cc nL ret Ts R mc ms post isI Z) (h : a ∈ LP) (hw : ∀ x ∈ uwsV, x ∈ Ts) (hlink : Cond.fieldLink own index "MixedNumbers$Value" "exponent" "I" ∈ Ts) (hdg : decode cc pc = .ok (.getfield index, 3)) (kk : ∀ v : Int32, v = (f a).2.2 → Z k n tys (pc + 3) lv (.int v :: st) (X ++ PL LP f)) : Z k n tys pc lv (.ref a :: st) (X ++ PL LP f) := by
  obtain ⟨p, e, s, m, args, below, meth, c, Q, A, hx, hb, hml, hown, hts, hN, hA, hin0, hret, rfl⟩ := hZ
  intro ls H locs hl hK hP hD hS
  obtain ⟨q, hq⟩ := zp_at (X := X) (f := f) h
  exact va_get hx hb hts hw hown hK hP q hq rfl 2 (by decide) (hts _ hlink) (fun _ h9 => h9) rfl hdg (kk _ rfl ls H locs hl hK hP hD hS)
theorem z_pp2 (hZ : zI l D vwCl zNF zNM own cc nL ret Ts R mc ms post isI Z) {x : Int32} (h : a ∈ LP) (hw : ∀ x ∈ uwsV, x ∈ Ts) (hlink : Cond.fieldLink own index "MixedNumbers$Value" "exponent" "I" ∈ Ts) (hdg : decode cc pc = .ok (.putfield index, 3)) (kk : ∀ f2 : Nat → V3, f2 = va_up f a ((f a).1, (f a).2.1, x) → Z k n tys (pc + 3) lv st (X ++ PL LP f2)) : Z k n tys pc lv (.int x :: .ref a :: st) (X ++ PL LP f) := by
  obtain ⟨p, e, s, m, args, below, meth, c, Q, A, hx, hb, hml, hown, hts, hN, hA, hin0, hret, rfl⟩ := hZ
  intro ls H locs hl hK hP hD hS
  obtain ⟨q, hq⟩ := zp_at (X := X) (f := f) h
  refine va_put hx hb hts hw tyV tyV_ok nmV hown hK hP hD hS q hq rfl 2 (by decide) (hts _ hlink) (fun _ h9 => h9) rfl (tyV_ok 2 (by decide)) rfl rfl (Nat.le_of_ble_eq_true rfl) hdg (fun H locs hP1 hD1 hS => ?_)
  have e9 := zp_set (v := ((f a).1, (f a).2.1, x)) hD h hq
  exact kk _ rfl ls H locs hl hK (by rw [← e9]; exact hP1) (by rw [← e9]; exact hD1) hS
theorem z_pg2N (hZ : zI l D vwCl zNF zNM own cc nL ret Ts R mc ms post isI Z) (h : a ∈ LP) (hw : ∀ x ∈ uwsV, x ∈ Ts) {host : String} (hlink : (own, index, "MixedNumbers$Value", "exponent", "I", host) ∈ zNF) (hdg : decode cc pc = .ok (.getfield index, 3)) (kk : ∀ v : Int32, v = (f a).2.2 → Z k n tys (pc + 3) lv (.int v :: st) (X ++ PL LP f)) : Z k n tys pc lv (.ref a :: st) (X ++ PL LP f) := by
  obtain ⟨p, e, s, m, args, below, meth, c, Q, A, hx, hb, hml, hown, hts, hN, hA, hin0, hret, rfl⟩ := hZ
  intro ls H locs hl hK hP hD hS
  obtain ⟨q, hq⟩ := zp_at (X := X) (f := f) h
  exact va_getN hx hb hts hw hown hK hP q hq rfl 2 (by decide) (va_Nw.use rfl (hN.1 _ hlink)) (fun _ h9 => h9) rfl hdg (kk _ rfl ls H locs hl hK hP hD hS)
theorem z_pp2N (hZ : zI l D vwCl zNF zNM own cc nL ret Ts R mc ms post isI Z) {x : Int32} (h : a ∈ LP) (hw : ∀ x ∈ uwsV, x ∈ Ts) {host : String} (hlink : (own, index, "MixedNumbers$Value", "exponent", "I", host) ∈ zNF) (hdg : decode cc pc = .ok (.putfield index, 3)) (kk : ∀ f2 : Nat → V3, f2 = va_up f a ((f a).1, (f a).2.1, x) → Z k n tys (pc + 3) lv st (X ++ PL LP f2)) : Z k n tys pc lv (.int x :: .ref a :: st) (X ++ PL LP f) := by
  obtain ⟨p, e, s, m, args, below, meth, c, Q, A, hx, hb, hml, hown, hts, hN, hA, hin0, hret, rfl⟩ := hZ
  intro ls H locs hl hK hP hD hS
  obtain ⟨q, hq⟩ := zp_at (X := X) (f := f) h
  refine va_putN hx hb hts hw tyV tyV_ok nmV hown hK hP hD hS q hq rfl 2 (by decide) (va_Nw.use rfl (hN.1 _ hlink)) (fun _ h9 => h9) rfl (tyV_ok 2 (by decide)) rfl rfl (Nat.le_of_ble_eq_true rfl) hdg (fun H locs hP1 hD1 hS => ?_)
  have e9 := zp_set (v := ((f a).1, (f a).2.1, x)) hD h hq
  exact kk _ rfl ls H locs hl hK (by rw [← e9]; exact hP1) (by rw [← e9]; exact hD1) hS
theorem z_newP (hZ : zI l D vwCl zNF zNM own cc nL ret Ts R mc ms post isI Z) (hcl : Cond.classLink own index RV ∈ Ts) (hinst : Cond.instantiable RV 3 ∈ Ts) (hini : Cond.initialized RV ∈ Ts) (hw : ∀ x ∈ uwsV, x ∈ Ts) (hcells : k + 1 ≤ R.cells) (hslots : n + 3 ≤ R.slots) (hdg : decode cc pc = .ok (.new index, 3)) (kk : ∀ (q : Nat) (f2 : Nat → V3), q ∉ LP → f2 = va_up f q (0, 0, 0) → Z (k + 1) (n + 3) tys (pc + 3) lv (.ref q :: st) (X ++ PL (LP ++ [q]) f2)) : Z k n tys pc lv st (X ++ PL LP f) := by
  obtain ⟨p, e, s, m, args, below, meth, c, Q, A, hx, hb, hml, hown, hts, hN, hA, hin0, hret, rfl⟩ := hZ
  intro ls H locs hl hK hP hD hS
  refine va_new (ci := 0) (fs := [.int 0, .long 0, .int 0]) hx hb hts hw tyV tyV_ok hown (hts _ hcl) (hts _ hinst) (hts _ hini) hK hP hD hS hA rfl (fun j hj => by rcases (show j = 0 ∨ j = 1 ∨ j = 2 by omega) with rfl | rfl | rfl <;> rfl) hcells hslots hdg (fun q H hP hD hS => ?_)
  have hq : q ∉ LP := va_pl_fresh2 (f := fun b => PE (f b)) hD
  have e9 : (X ++ PL LP f) ++ [(q, PE (0, 0, 0))] = X ++ PL (LP ++ [q]) (va_up f q (0, 0, 0)) := by
    rw [List.append_assoc]
    have h1 := va_pl_push (f := fun b => PE (f b)) (e := PE (0, 0, 0)) hq
    rw [PL_up] at h1
    exact congrArg (fun z => X ++ z) h1
  exact kk q _ hq rfl ls H locs hl hK (by rw [← e9]; exact hP) (by rw [← e9]; exact hD) hS
end ZP
