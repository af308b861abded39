theorem dL_arrow_0 : decode cL_arrow 0 = .ok (.aload_n 3, 1) := by decide +kernel
theorem dL_arrow_1 : decode cL_arrow 1 = .ok (.iconst 0, 1) := by decide +kernel
theorem dL_arrow_2 : decode cL_arrow 2 = .ok (.aload_n 0, 1) := by decide +kernel
theorem dL_arrow_3 : decode cL_arrow 3 = .ok (.iload_n 1, 1) := by decide +kernel
theorem dL_arrow_4 : decode cL_arrow 4 = .ok (.iload_n 2, 1) := by decide +kernel
theorem dL_arrow_5 : decode cL_arrow 5 = .ok (.invokevirtual 7, 3) := by decide +kernel
theorem dL_arrow_8 : decode cL_arrow 8 = .ok (.i2l, 1) := by decide +kernel
theorem dL_arrow_9 : decode cL_arrow 9 = .ok (.lastore, 1) := by decide +kernel
theorem dL_arrow_10 : decode cL_arrow 10 = .ok (.goto 11, 3) := by decide +kernel
theorem dL_arrow_13 : decode cL_arrow 13 = .ok (.astore 4, 2) := by decide +kernel
theorem dL_arrow_15 : decode cL_arrow 15 = .ok (.iconst 1, 1) := by decide +kernel
theorem dL_arrow_16 : decode cL_arrow 16 = .ok (.ireturn, 1) := by decide +kernel
theorem dL_arrow_17 : decode cL_arrow 17 = .ok (.astore 4, 2) := by decide +kernel
theorem dL_arrow_19 : decode cL_arrow 19 = .ok (.iconst 2, 1) := by decide +kernel
theorem dL_arrow_20 : decode cL_arrow 20 = .ok (.ireturn, 1) := by decide +kernel
theorem dL_arrow_21 : decode cL_arrow 21 = .ok (.iconst 0, 1) := by decide +kernel
theorem dL_arrow_22 : decode cL_arrow 22 = .ok (.ireturn, 1) := by decide +kernel
theorem dL_type_0 : decode cL_type 0 = .ok (.aload_n 3, 1) := by decide +kernel
theorem dL_type_1 : decode cL_type 1 = .ok (.iconst 0, 1) := by decide +kernel
theorem dL_type_2 : decode cL_type 2 = .ok (.aload_n 0, 1) := by decide +kernel
theorem dL_type_3 : decode cL_type 3 = .ok (.iload_n 1, 1) := by decide +kernel
theorem dL_type_4 : decode cL_type 4 = .ok (.iload_n 2, 1) := by decide +kernel
theorem dL_type_5 : decode cL_type 5 = .ok (.invokevirtual 17, 3) := by decide +kernel
theorem dL_type_8 : decode cL_type 8 = .ok (.i2l, 1) := by decide +kernel
theorem dL_type_9 : decode cL_type 9 = .ok (.lastore, 1) := by decide +kernel
theorem dL_type_10 : decode cL_type 10 = .ok (.goto 11, 3) := by decide +kernel
theorem dL_type_13 : decode cL_type 13 = .ok (.astore 4, 2) := by decide +kernel
theorem dL_type_15 : decode cL_type 15 = .ok (.iconst 1, 1) := by decide +kernel
theorem dL_type_16 : decode cL_type 16 = .ok (.ireturn, 1) := by decide +kernel
theorem dL_type_17 : decode cL_type 17 = .ok (.astore 4, 2) := by decide +kernel
theorem dL_type_19 : decode cL_type 19 = .ok (.iconst 2, 1) := by decide +kernel
theorem dL_type_20 : decode cL_type 20 = .ok (.ireturn, 1) := by decide +kernel
theorem dL_type_21 : decode cL_type 21 = .ok (.iconst 0, 1) := by decide +kernel
theorem dL_type_22 : decode cL_type 22 = .ok (.ireturn, 1) := by decide +kernel
theorem dL_addType_0 : decode cL_addType 0 = .ok (.aload_n 3, 1) := by decide +kernel
theorem dL_addType_1 : decode cL_addType 1 = .ok (.iconst 0, 1) := by decide +kernel
theorem dL_addType_2 : decode cL_addType 2 = .ok (.aload_n 0, 1) := by decide +kernel
theorem dL_addType_3 : decode cL_addType 3 = .ok (.iload_n 1, 1) := by decide +kernel
theorem dL_addType_4 : decode cL_addType 4 = .ok (.iload_n 2, 1) := by decide +kernel
theorem dL_addType_5 : decode cL_addType 5 = .ok (.invokevirtual 22, 3) := by decide +kernel
theorem dL_addType_8 : decode cL_addType 8 = .ok (.i2l, 1) := by decide +kernel
theorem dL_addType_9 : decode cL_addType 9 = .ok (.lastore, 1) := by decide +kernel
theorem dL_addType_10 : decode cL_addType 10 = .ok (.goto 15, 3) := by decide +kernel
theorem dL_addType_13 : decode cL_addType 13 = .ok (.astore 4, 2) := by decide +kernel
theorem dL_addType_15 : decode cL_addType 15 = .ok (.iconst 1, 1) := by decide +kernel
theorem dL_addType_16 : decode cL_addType 16 = .ok (.ireturn, 1) := by decide +kernel
theorem dL_addType_17 : decode cL_addType 17 = .ok (.astore 4, 2) := by decide +kernel
theorem dL_addType_19 : decode cL_addType 19 = .ok (.iconst 2, 1) := by decide +kernel
theorem dL_addType_20 : decode cL_addType 20 = .ok (.ireturn, 1) := by decide +kernel
theorem dL_addType_21 : decode cL_addType 21 = .ok (.astore 4, 2) := by decide +kernel
theorem dL_addType_23 : decode cL_addType 23 = .ok (.iconst 3, 1) := by decide +kernel
theorem dL_addType_24 : decode cL_addType 24 = .ok (.ireturn, 1) := by decide +kernel
theorem dL_addType_25 : decode cL_addType 25 = .ok (.iconst 0, 1) := by decide +kernel
theorem dL_addType_26 : decode cL_addType 26 = .ok (.ireturn, 1) := by decide +kernel
theorem dL_addValue_0 : decode cL_addValue 0 = .ok (.aload 4, 2) := by decide +kernel
theorem dL_addValue_2 : decode cL_addValue 2 = .ok (.iconst 0, 1) := by decide +kernel
theorem dL_addValue_3 : decode cL_addValue 3 = .ok (.aload_n 0, 1) := by decide +kernel
theorem dL_addValue_4 : decode cL_addValue 4 = .ok (.iload_n 1, 1) := by decide +kernel
theorem dL_addValue_5 : decode cL_addValue 5 = .ok (.iload_n 2, 1) := by decide +kernel
theorem dL_addValue_6 : decode cL_addValue 6 = .ok (.iload_n 3, 1) := by decide +kernel
theorem dL_addValue_7 : decode cL_addValue 7 = .ok (.invokevirtual 25, 3) := by decide +kernel
theorem dL_addValue_10 : decode cL_addValue 10 = .ok (.ifCond .eq 7, 3) := by decide +kernel
theorem dL_addValue_13 : decode cL_addValue 13 = .ok (.lconst 1, 1) := by decide +kernel
theorem dL_addValue_14 : decode cL_addValue 14 = .ok (.goto 4, 3) := by decide +kernel
theorem dL_addValue_17 : decode cL_addValue 17 = .ok (.lconst 0, 1) := by decide +kernel
theorem dL_addValue_18 : decode cL_addValue 18 = .ok (.lastore, 1) := by decide +kernel
theorem dL_addValue_19 : decode cL_addValue 19 = .ok (.goto 11, 3) := by decide +kernel
theorem dL_addValue_22 : decode cL_addValue 22 = .ok (.astore 5, 2) := by decide +kernel
theorem dL_addValue_24 : decode cL_addValue 24 = .ok (.iconst 1, 1) := by decide +kernel
theorem dL_addValue_25 : decode cL_addValue 25 = .ok (.ireturn, 1) := by decide +kernel
theorem dL_addValue_26 : decode cL_addValue 26 = .ok (.astore 5, 2) := by decide +kernel
theorem dL_addValue_28 : decode cL_addValue 28 = .ok (.iconst 2, 1) := by decide +kernel
theorem dL_addValue_29 : decode cL_addValue 29 = .ok (.ireturn, 1) := by decide +kernel
theorem dL_addValue_30 : decode cL_addValue 30 = .ok (.iconst 0, 1) := by decide +kernel
theorem dL_addValue_31 : decode cL_addValue 31 = .ok (.ireturn, 1) := by decide +kernel
theorem dL_addPart_0 : decode cL_addPart 0 = .ok (.aload_n 3, 1) := by decide +kernel
theorem dL_addPart_1 : decode cL_addPart 1 = .ok (.iconst 0, 1) := by decide +kernel
theorem dL_addPart_2 : decode cL_addPart 2 = .ok (.aload_n 0, 1) := by decide +kernel
theorem dL_addPart_3 : decode cL_addPart 3 = .ok (.iload_n 1, 1) := by decide +kernel
theorem dL_addPart_4 : decode cL_addPart 4 = .ok (.iload_n 2, 1) := by decide +kernel
theorem dL_addPart_5 : decode cL_addPart 5 = .ok (.invokevirtual 29, 3) := by decide +kernel
theorem dL_addPart_8 : decode cL_addPart 8 = .ok (.ifCond .eq 7, 3) := by decide +kernel
theorem dL_addPart_11 : decode cL_addPart 11 = .ok (.lconst 1, 1) := by decide +kernel
theorem dL_addPart_12 : decode cL_addPart 12 = .ok (.goto 4, 3) := by decide +kernel
theorem dL_addPart_15 : decode cL_addPart 15 = .ok (.lconst 0, 1) := by decide +kernel
theorem dL_addPart_16 : decode cL_addPart 16 = .ok (.lastore, 1) := by decide +kernel
theorem dL_addPart_17 : decode cL_addPart 17 = .ok (.goto 11, 3) := by decide +kernel
theorem dL_addPart_20 : decode cL_addPart 20 = .ok (.astore 4, 2) := by decide +kernel
theorem dL_addPart_22 : decode cL_addPart 22 = .ok (.iconst 1, 1) := by decide +kernel
theorem dL_addPart_23 : decode cL_addPart 23 = .ok (.ireturn, 1) := by decide +kernel
theorem dL_addPart_24 : decode cL_addPart 24 = .ok (.astore 4, 2) := by decide +kernel
theorem dL_addPart_26 : decode cL_addPart 26 = .ok (.iconst 2, 1) := by decide +kernel
theorem dL_addPart_27 : decode cL_addPart 27 = .ok (.ireturn, 1) := by decide +kernel
theorem dL_addPart_28 : decode cL_addPart 28 = .ok (.iconst 0, 1) := by decide +kernel
theorem dL_addPart_29 : decode cL_addPart 29 = .ok (.ireturn, 1) := by decide +kernel
theorem dL_open_0 : decode cL_open 0 = .ok (.aload_n 2, 1) := by decide +kernel
theorem dL_open_1 : decode cL_open 1 = .ok (.iconst 0, 1) := by decide +kernel
theorem dL_open_2 : decode cL_open 2 = .ok (.aload_n 0, 1) := by decide +kernel
theorem dL_open_3 : decode cL_open 3 = .ok (.iload_n 1, 1) := by decide +kernel
theorem dL_open_4 : decode cL_open 4 = .ok (.invokevirtual 33, 3) := by decide +kernel
theorem dL_open_7 : decode cL_open 7 = .ok (.i2l, 1) := by decide +kernel
theorem dL_open_8 : decode cL_open 8 = .ok (.lastore, 1) := by decide +kernel
theorem dL_open_9 : decode cL_open 9 = .ok (.goto 6, 3) := by decide +kernel
theorem dL_open_12 : decode cL_open 12 = .ok (.astore_n 3, 1) := by decide +kernel
theorem dL_open_13 : decode cL_open 13 = .ok (.iconst 1, 1) := by decide +kernel
theorem dL_open_14 : decode cL_open 14 = .ok (.ireturn, 1) := by decide +kernel
theorem dL_open_15 : decode cL_open 15 = .ok (.iconst 0, 1) := by decide +kernel
theorem dL_open_16 : decode cL_open 16 = .ok (.ireturn, 1) := by decide +kernel
theorem dL_structure_0 : decode cL_structure 0 = .ok (.aload_n 1, 1) := by decide +kernel
theorem dL_structure_1 : decode cL_structure 1 = .ok (.iconst 0, 1) := by decide +kernel
theorem dL_structure_2 : decode cL_structure 2 = .ok (.aload_n 0, 1) := by decide +kernel
theorem dL_structure_3 : decode cL_structure 3 = .ok (.invokevirtual 37, 3) := by decide +kernel
theorem dL_structure_6 : decode cL_structure 6 = .ok (.i2l, 1) := by decide +kernel
theorem dL_structure_7 : decode cL_structure 7 = .ok (.lastore, 1) := by decide +kernel
theorem dL_structure_8 : decode cL_structure 8 = .ok (.goto 6, 3) := by decide +kernel
theorem dL_structure_11 : decode cL_structure 11 = .ok (.astore_n 2, 1) := by decide +kernel
theorem dL_structure_12 : decode cL_structure 12 = .ok (.iconst 1, 1) := by decide +kernel
theorem dL_structure_13 : decode cL_structure 13 = .ok (.ireturn, 1) := by decide +kernel
theorem dL_structure_14 : decode cL_structure 14 = .ok (.iconst 0, 1) := by decide +kernel
theorem dL_structure_15 : decode cL_structure 15 = .ok (.ireturn, 1) := by decide +kernel
theorem dL_item_0 : decode cL_item 0 = .ok (.aload 5, 2) := by decide +kernel
theorem dL_item_2 : decode cL_item 2 = .ok (.iconst 0, 1) := by decide +kernel
theorem dL_item_3 : decode cL_item 3 = .ok (.aload_n 0, 1) := by decide +kernel
theorem dL_item_4 : decode cL_item 4 = .ok (.iload_n 1, 1) := by decide +kernel
theorem dL_item_5 : decode cL_item 5 = .ok (.iload_n 2, 1) := by decide +kernel
theorem dL_item_6 : decode cL_item 6 = .ok (.iload_n 3, 1) := by decide +kernel
theorem dL_item_7 : decode cL_item 7 = .ok (.iload 4, 2) := by decide +kernel
theorem dL_item_9 : decode cL_item 9 = .ok (.invokevirtual 41, 3) := by decide +kernel
theorem dL_item_12 : decode cL_item 12 = .ok (.i2l, 1) := by decide +kernel
theorem dL_item_13 : decode cL_item 13 = .ok (.lastore, 1) := by decide +kernel
theorem dL_item_14 : decode cL_item 14 = .ok (.goto 11, 3) := by decide +kernel
theorem dL_item_17 : decode cL_item 17 = .ok (.astore 6, 2) := by decide +kernel
theorem dL_item_19 : decode cL_item 19 = .ok (.iconst 1, 1) := by decide +kernel
theorem dL_item_20 : decode cL_item 20 = .ok (.ireturn, 1) := by decide +kernel
theorem dL_item_21 : decode cL_item 21 = .ok (.astore 6, 2) := by decide +kernel
theorem dL_item_23 : decode cL_item 23 = .ok (.iconst 2, 1) := by decide +kernel
theorem dL_item_24 : decode cL_item 24 = .ok (.ireturn, 1) := by decide +kernel
theorem dL_item_25 : decode cL_item 25 = .ok (.iconst 0, 1) := by decide +kernel
theorem dL_item_26 : decode cL_item 26 = .ok (.ireturn, 1) := by decide +kernel
theorem dL_items_0 : decode cL_items 0 = .ok (.aload_n 2, 1) := by decide +kernel
theorem dL_items_1 : decode cL_items 1 = .ok (.iconst 0, 1) := by decide +kernel
theorem dL_items_2 : decode cL_items 2 = .ok (.aload_n 0, 1) := by decide +kernel
theorem dL_items_3 : decode cL_items 3 = .ok (.iload_n 1, 1) := by decide +kernel
theorem dL_items_4 : decode cL_items 4 = .ok (.invokevirtual 45, 3) := by decide +kernel
theorem dL_items_7 : decode cL_items 7 = .ok (.i2l, 1) := by decide +kernel
theorem dL_items_8 : decode cL_items 8 = .ok (.lastore, 1) := by decide +kernel
theorem dL_items_9 : decode cL_items 9 = .ok (.goto 6, 3) := by decide +kernel
theorem dL_items_12 : decode cL_items 12 = .ok (.astore_n 3, 1) := by decide +kernel
theorem dL_items_13 : decode cL_items 13 = .ok (.iconst 1, 1) := by decide +kernel
theorem dL_items_14 : decode cL_items 14 = .ok (.ireturn, 1) := by decide +kernel
theorem dL_items_15 : decode cL_items 15 = .ok (.iconst 0, 1) := by decide +kernel
theorem dL_items_16 : decode cL_items 16 = .ok (.ireturn, 1) := by decide +kernel
theorem dL_specType_0 : decode cL_specType 0 = .ok (.aload_n 3, 1) := by decide +kernel
theorem dL_specType_1 : decode cL_specType 1 = .ok (.iconst 0, 1) := by decide +kernel
theorem dL_specType_2 : decode cL_specType 2 = .ok (.aload_n 0, 1) := by decide +kernel
theorem dL_specType_3 : decode cL_specType 3 = .ok (.iload_n 1, 1) := by decide +kernel
theorem dL_specType_4 : decode cL_specType 4 = .ok (.iload_n 2, 1) := by decide +kernel
theorem dL_specType_5 : decode cL_specType 5 = .ok (.invokevirtual 48, 3) := by decide +kernel
theorem dL_specType_8 : decode cL_specType 8 = .ok (.i2l, 1) := by decide +kernel
theorem dL_specType_9 : decode cL_specType 9 = .ok (.lastore, 1) := by decide +kernel
theorem dL_specType_10 : decode cL_specType 10 = .ok (.goto 15, 3) := by decide +kernel
theorem dL_specType_13 : decode cL_specType 13 = .ok (.astore 4, 2) := by decide +kernel
theorem dL_specType_15 : decode cL_specType 15 = .ok (.iconst 1, 1) := by decide +kernel
theorem dL_specType_16 : decode cL_specType 16 = .ok (.ireturn, 1) := by decide +kernel
theorem dL_specType_17 : decode cL_specType 17 = .ok (.astore 4, 2) := by decide +kernel
theorem dL_specType_19 : decode cL_specType 19 = .ok (.iconst 2, 1) := by decide +kernel
theorem dL_specType_20 : decode cL_specType 20 = .ok (.ireturn, 1) := by decide +kernel
theorem dL_specType_21 : decode cL_specType 21 = .ok (.astore 4, 2) := by decide +kernel
theorem dL_specType_23 : decode cL_specType 23 = .ok (.iconst 3, 1) := by decide +kernel
theorem dL_specType_24 : decode cL_specType 24 = .ok (.ireturn, 1) := by decide +kernel
theorem dL_specType_25 : decode cL_specType 25 = .ok (.iconst 0, 1) := by decide +kernel
theorem dL_specType_26 : decode cL_specType 26 = .ok (.ireturn, 1) := by decide +kernel
theorem dL_specValue_0 : decode cL_specValue 0 = .ok (.aload 4, 2) := by decide +kernel
theorem dL_specValue_2 : decode cL_specValue 2 = .ok (.iconst 0, 1) := by decide +kernel
theorem dL_specValue_3 : decode cL_specValue 3 = .ok (.aload_n 0, 1) := by decide +kernel
theorem dL_specValue_4 : decode cL_specValue 4 = .ok (.iload_n 1, 1) := by decide +kernel
theorem dL_specValue_5 : decode cL_specValue 5 = .ok (.iload_n 2, 1) := by decide +kernel
theorem dL_specValue_6 : decode cL_specValue 6 = .ok (.iload_n 3, 1) := by decide +kernel
theorem dL_specValue_7 : decode cL_specValue 7 = .ok (.invokevirtual 51, 3) := by decide +kernel
theorem dL_specValue_10 : decode cL_specValue 10 = .ok (.i2l, 1) := by decide +kernel
theorem dL_specValue_11 : decode cL_specValue 11 = .ok (.lastore, 1) := by decide +kernel
theorem dL_specValue_12 : decode cL_specValue 12 = .ok (.goto 15, 3) := by decide +kernel
theorem dL_specValue_15 : decode cL_specValue 15 = .ok (.astore 5, 2) := by decide +kernel
theorem dL_specValue_17 : decode cL_specValue 17 = .ok (.iconst 1, 1) := by decide +kernel
theorem dL_specValue_18 : decode cL_specValue 18 = .ok (.ireturn, 1) := by decide +kernel
theorem dL_specValue_19 : decode cL_specValue 19 = .ok (.astore 5, 2) := by decide +kernel
theorem dL_specValue_21 : decode cL_specValue 21 = .ok (.iconst 2, 1) := by decide +kernel
theorem dL_specValue_22 : decode cL_specValue 22 = .ok (.ireturn, 1) := by decide +kernel
theorem dL_specValue_23 : decode cL_specValue 23 = .ok (.astore 5, 2) := by decide +kernel
theorem dL_specValue_25 : decode cL_specValue 25 = .ok (.iconst 3, 1) := by decide +kernel
theorem dL_specValue_26 : decode cL_specValue 26 = .ok (.ireturn, 1) := by decide +kernel
theorem dL_specValue_27 : decode cL_specValue 27 = .ok (.iconst 0, 1) := by decide +kernel
theorem dL_specValue_28 : decode cL_specValue 28 = .ok (.ireturn, 1) := by decide +kernel
theorem dL_specPart_0 : decode cL_specPart 0 = .ok (.aload_n 3, 1) := by decide +kernel
theorem dL_specPart_1 : decode cL_specPart 1 = .ok (.iconst 0, 1) := by decide +kernel
theorem dL_specPart_2 : decode cL_specPart 2 = .ok (.aload_n 0, 1) := by decide +kernel
theorem dL_specPart_3 : decode cL_specPart 3 = .ok (.iload_n 1, 1) := by decide +kernel
theorem dL_specPart_4 : decode cL_specPart 4 = .ok (.iload_n 2, 1) := by decide +kernel
theorem dL_specPart_5 : decode cL_specPart 5 = .ok (.invokevirtual 55, 3) := by decide +kernel
theorem dL_specPart_8 : decode cL_specPart 8 = .ok (.i2l, 1) := by decide +kernel
theorem dL_specPart_9 : decode cL_specPart 9 = .ok (.lastore, 1) := by decide +kernel
theorem dL_specPart_10 : decode cL_specPart 10 = .ok (.goto 15, 3) := by decide +kernel
theorem dL_specPart_13 : decode cL_specPart 13 = .ok (.astore 4, 2) := by decide +kernel
theorem dL_specPart_15 : decode cL_specPart 15 = .ok (.iconst 1, 1) := by decide +kernel
theorem dL_specPart_16 : decode cL_specPart 16 = .ok (.ireturn, 1) := by decide +kernel
theorem dL_specPart_17 : decode cL_specPart 17 = .ok (.astore 4, 2) := by decide +kernel
theorem dL_specPart_19 : decode cL_specPart 19 = .ok (.iconst 2, 1) := by decide +kernel
theorem dL_specPart_20 : decode cL_specPart 20 = .ok (.ireturn, 1) := by decide +kernel
theorem dL_specPart_21 : decode cL_specPart 21 = .ok (.astore 4, 2) := by decide +kernel
theorem dL_specPart_23 : decode cL_specPart 23 = .ok (.iconst 3, 1) := by decide +kernel
theorem dL_specPart_24 : decode cL_specPart 24 = .ok (.ireturn, 1) := by decide +kernel
theorem dL_specPart_25 : decode cL_specPart 25 = .ok (.iconst 0, 1) := by decide +kernel
theorem dL_specPart_26 : decode cL_specPart 26 = .ok (.ireturn, 1) := by decide +kernel
theorem dL_include_0 : decode cL_include 0 = .ok (.aload_n 2, 1) := by decide +kernel
theorem dL_include_1 : decode cL_include 1 = .ok (.iconst 0, 1) := by decide +kernel
theorem dL_include_2 : decode cL_include 2 = .ok (.aload_n 0, 1) := by decide +kernel
theorem dL_include_3 : decode cL_include 3 = .ok (.iload_n 1, 1) := by decide +kernel
theorem dL_include_4 : decode cL_include 4 = .ok (.invokevirtual 58, 3) := by decide +kernel
theorem dL_include_7 : decode cL_include 7 = .ok (.i2l, 1) := by decide +kernel
theorem dL_include_8 : decode cL_include 8 = .ok (.lastore, 1) := by decide +kernel
theorem dL_include_9 : decode cL_include 9 = .ok (.goto 9, 3) := by decide +kernel
theorem dL_include_12 : decode cL_include 12 = .ok (.astore_n 3, 1) := by decide +kernel
theorem dL_include_13 : decode cL_include 13 = .ok (.iconst 1, 1) := by decide +kernel
theorem dL_include_14 : decode cL_include 14 = .ok (.ireturn, 1) := by decide +kernel
theorem dL_include_15 : decode cL_include 15 = .ok (.astore_n 3, 1) := by decide +kernel
theorem dL_include_16 : decode cL_include 16 = .ok (.iconst 2, 1) := by decide +kernel
theorem dL_include_17 : decode cL_include 17 = .ok (.ireturn, 1) := by decide +kernel
theorem dL_include_18 : decode cL_include 18 = .ok (.iconst 0, 1) := by decide +kernel
theorem dL_include_19 : decode cL_include 19 = .ok (.ireturn, 1) := by decide +kernel
theorem dL_signature_0 : decode cL_signature 0 = .ok (.aload_n 1, 1) := by decide +kernel
theorem dL_signature_1 : decode cL_signature 1 = .ok (.iconst 0, 1) := by decide +kernel
theorem dL_signature_2 : decode cL_signature 2 = .ok (.aload_n 0, 1) := by decide +kernel
theorem dL_signature_3 : decode cL_signature 3 = .ok (.invokevirtual 61, 3) := by decide +kernel
theorem dL_signature_6 : decode cL_signature 6 = .ok (.i2l, 1) := by decide +kernel
theorem dL_signature_7 : decode cL_signature 7 = .ok (.lastore, 1) := by decide +kernel
theorem dL_signature_8 : decode cL_signature 8 = .ok (.goto 6, 3) := by decide +kernel
theorem dL_signature_11 : decode cL_signature 11 = .ok (.astore_n 2, 1) := by decide +kernel
theorem dL_signature_12 : decode cL_signature 12 = .ok (.iconst 1, 1) := by decide +kernel
theorem dL_signature_13 : decode cL_signature 13 = .ok (.ireturn, 1) := by decide +kernel
theorem dL_signature_14 : decode cL_signature 14 = .ok (.iconst 0, 1) := by decide +kernel
theorem dL_signature_15 : decode cL_signature 15 = .ok (.ireturn, 1) := by decide +kernel
theorem dL_with_0 : decode cL_with 0 = .ok (.aload 5, 2) := by decide +kernel
theorem dL_with_2 : decode cL_with 2 = .ok (.iconst 0, 1) := by decide +kernel
theorem dL_with_3 : decode cL_with 3 = .ok (.aload_n 0, 1) := by decide +kernel
theorem dL_with_4 : decode cL_with 4 = .ok (.iload_n 1, 1) := by decide +kernel
theorem dL_with_5 : decode cL_with 5 = .ok (.iload_n 2, 1) := by decide +kernel
theorem dL_with_6 : decode cL_with 6 = .ok (.iload_n 3, 1) := by decide +kernel
theorem dL_with_7 : decode cL_with 7 = .ok (.iload 4, 2) := by decide +kernel
theorem dL_with_9 : decode cL_with 9 = .ok (.invokevirtual 64, 3) := by decide +kernel
theorem dL_with_12 : decode cL_with 12 = .ok (.i2l, 1) := by decide +kernel
theorem dL_with_13 : decode cL_with 13 = .ok (.lastore, 1) := by decide +kernel
theorem dL_with_14 : decode cL_with 14 = .ok (.goto 11, 3) := by decide +kernel
theorem dL_with_17 : decode cL_with 17 = .ok (.astore 6, 2) := by decide +kernel
theorem dL_with_19 : decode cL_with 19 = .ok (.iconst 1, 1) := by decide +kernel
theorem dL_with_20 : decode cL_with 20 = .ok (.ireturn, 1) := by decide +kernel
theorem dL_with_21 : decode cL_with 21 = .ok (.astore 6, 2) := by decide +kernel
theorem dL_with_23 : decode cL_with 23 = .ok (.iconst 2, 1) := by decide +kernel
theorem dL_with_24 : decode cL_with 24 = .ok (.ireturn, 1) := by decide +kernel
theorem dL_with_25 : decode cL_with 25 = .ok (.iconst 0, 1) := by decide +kernel
theorem dL_with_26 : decode cL_with 26 = .ok (.ireturn, 1) := by decide +kernel
theorem dL_specs_0 : decode cL_specs 0 = .ok (.aload_n 2, 1) := by decide +kernel
theorem dL_specs_1 : decode cL_specs 1 = .ok (.iconst 0, 1) := by decide +kernel
theorem dL_specs_2 : decode cL_specs 2 = .ok (.aload_n 0, 1) := by decide +kernel
theorem dL_specs_3 : decode cL_specs 3 = .ok (.iload_n 1, 1) := by decide +kernel
theorem dL_specs_4 : decode cL_specs 4 = .ok (.invokevirtual 68, 3) := by decide +kernel
theorem dL_specs_7 : decode cL_specs 7 = .ok (.i2l, 1) := by decide +kernel
theorem dL_specs_8 : decode cL_specs 8 = .ok (.lastore, 1) := by decide +kernel
theorem dL_specs_9 : decode cL_specs 9 = .ok (.goto 6, 3) := by decide +kernel
theorem dL_specs_12 : decode cL_specs 12 = .ok (.astore_n 3, 1) := by decide +kernel
theorem dL_specs_13 : decode cL_specs 13 = .ok (.iconst 1, 1) := by decide +kernel
theorem dL_specs_14 : decode cL_specs 14 = .ok (.ireturn, 1) := by decide +kernel
theorem dL_specs_15 : decode cL_specs 15 = .ok (.iconst 0, 1) := by decide +kernel
theorem dL_specs_16 : decode cL_specs 16 = .ok (.ireturn, 1) := by decide +kernel
theorem dL_match_0 : decode cL_match 0 = .ok (.aload_n 3, 1) := by decide +kernel
theorem dL_match_1 : decode cL_match 1 = .ok (.iconst 0, 1) := by decide +kernel
theorem dL_match_2 : decode cL_match 2 = .ok (.aload_n 0, 1) := by decide +kernel
theorem dL_match_3 : decode cL_match 3 = .ok (.iload_n 1, 1) := by decide +kernel
theorem dL_match_4 : decode cL_match 4 = .ok (.iload_n 2, 1) := by decide +kernel
theorem dL_match_5 : decode cL_match 5 = .ok (.invokevirtual 71, 3) := by decide +kernel
theorem dL_match_8 : decode cL_match 8 = .ok (.i2l, 1) := by decide +kernel
theorem dL_match_9 : decode cL_match 9 = .ok (.lastore, 1) := by decide +kernel
theorem dL_match_10 : decode cL_match 10 = .ok (.goto 7, 3) := by decide +kernel
theorem dL_match_13 : decode cL_match 13 = .ok (.astore 4, 2) := by decide +kernel
theorem dL_match_15 : decode cL_match 15 = .ok (.iconst 1, 1) := by decide +kernel
theorem dL_match_16 : decode cL_match 16 = .ok (.ireturn, 1) := by decide +kernel
theorem dL_match_17 : decode cL_match 17 = .ok (.iconst 0, 1) := by decide +kernel
theorem dL_match_18 : decode cL_match 18 = .ok (.ireturn, 1) := by decide +kernel
theorem dL_seal_0 : decode cL_seal 0 = .ok (.aload_n 3, 1) := by decide +kernel
theorem dL_seal_1 : decode cL_seal 1 = .ok (.iconst 0, 1) := by decide +kernel
theorem dL_seal_2 : decode cL_seal 2 = .ok (.aload_n 0, 1) := by decide +kernel
theorem dL_seal_3 : decode cL_seal 3 = .ok (.iload_n 1, 1) := by decide +kernel
theorem dL_seal_4 : decode cL_seal 4 = .ok (.iload_n 2, 1) := by decide +kernel
theorem dL_seal_5 : decode cL_seal 5 = .ok (.invokevirtual 74, 3) := by decide +kernel
theorem dL_seal_8 : decode cL_seal 8 = .ok (.i2l, 1) := by decide +kernel
theorem dL_seal_9 : decode cL_seal 9 = .ok (.lastore, 1) := by decide +kernel
theorem dL_seal_10 : decode cL_seal 10 = .ok (.goto 11, 3) := by decide +kernel
theorem dL_seal_13 : decode cL_seal 13 = .ok (.astore 4, 2) := by decide +kernel
theorem dL_seal_15 : decode cL_seal 15 = .ok (.iconst 1, 1) := by decide +kernel
theorem dL_seal_16 : decode cL_seal 16 = .ok (.ireturn, 1) := by decide +kernel
theorem dL_seal_17 : decode cL_seal 17 = .ok (.astore 4, 2) := by decide +kernel
theorem dL_seal_19 : decode cL_seal 19 = .ok (.iconst 2, 1) := by decide +kernel
theorem dL_seal_20 : decode cL_seal 20 = .ok (.ireturn, 1) := by decide +kernel
theorem dL_seal_21 : decode cL_seal 21 = .ok (.iconst 0, 1) := by decide +kernel
theorem dL_seal_22 : decode cL_seal 22 = .ok (.ireturn, 1) := by decide +kernel
theorem dL_view_0 : decode cL_view 0 = .ok (.aload_n 3, 1) := by decide +kernel
theorem dL_view_1 : decode cL_view 1 = .ok (.iconst 0, 1) := by decide +kernel
theorem dL_view_2 : decode cL_view 2 = .ok (.aload_n 0, 1) := by decide +kernel
theorem dL_view_3 : decode cL_view 3 = .ok (.iload_n 1, 1) := by decide +kernel
theorem dL_view_4 : decode cL_view 4 = .ok (.iload_n 2, 1) := by decide +kernel
theorem dL_view_5 : decode cL_view 5 = .ok (.invokevirtual 77, 3) := by decide +kernel
theorem dL_view_8 : decode cL_view 8 = .ok (.i2l, 1) := by decide +kernel
theorem dL_view_9 : decode cL_view 9 = .ok (.lastore, 1) := by decide +kernel
theorem dL_view_10 : decode cL_view 10 = .ok (.goto 11, 3) := by decide +kernel
theorem dL_view_13 : decode cL_view 13 = .ok (.astore 4, 2) := by decide +kernel
theorem dL_view_15 : decode cL_view 15 = .ok (.iconst 1, 1) := by decide +kernel
theorem dL_view_16 : decode cL_view 16 = .ok (.ireturn, 1) := by decide +kernel
theorem dL_view_17 : decode cL_view 17 = .ok (.astore 4, 2) := by decide +kernel
theorem dL_view_19 : decode cL_view 19 = .ok (.iconst 2, 1) := by decide +kernel
theorem dL_view_20 : decode cL_view 20 = .ok (.ireturn, 1) := by decide +kernel
theorem dL_view_21 : decode cL_view 21 = .ok (.iconst 0, 1) := by decide +kernel
theorem dL_view_22 : decode cL_view 22 = .ok (.ireturn, 1) := by decide +kernel
theorem dL_finer_0 : decode cL_finer 0 = .ok (.aload_n 3, 1) := by decide +kernel
theorem dL_finer_1 : decode cL_finer 1 = .ok (.iconst 0, 1) := by decide +kernel
theorem dL_finer_2 : decode cL_finer 2 = .ok (.aload_n 0, 1) := by decide +kernel
theorem dL_finer_3 : decode cL_finer 3 = .ok (.iload_n 1, 1) := by decide +kernel
theorem dL_finer_4 : decode cL_finer 4 = .ok (.iload_n 2, 1) := by decide +kernel
theorem dL_finer_5 : decode cL_finer 5 = .ok (.invokevirtual 80, 3) := by decide +kernel
theorem dL_finer_8 : decode cL_finer 8 = .ok (.ifCond .eq 7, 3) := by decide +kernel
theorem dL_finer_11 : decode cL_finer 11 = .ok (.lconst 1, 1) := by decide +kernel
theorem dL_finer_12 : decode cL_finer 12 = .ok (.goto 4, 3) := by decide +kernel
theorem dL_finer_15 : decode cL_finer 15 = .ok (.lconst 0, 1) := by decide +kernel
theorem dL_finer_16 : decode cL_finer 16 = .ok (.lastore, 1) := by decide +kernel
theorem dL_finer_17 : decode cL_finer 17 = .ok (.goto 7, 3) := by decide +kernel
theorem dL_finer_20 : decode cL_finer 20 = .ok (.astore 4, 2) := by decide +kernel
theorem dL_finer_22 : decode cL_finer 22 = .ok (.iconst 1, 1) := by decide +kernel
theorem dL_finer_23 : decode cL_finer 23 = .ok (.ireturn, 1) := by decide +kernel
theorem dL_finer_24 : decode cL_finer 24 = .ok (.iconst 0, 1) := by decide +kernel
theorem dL_finer_25 : decode cL_finer 25 = .ok (.ireturn, 1) := by decide +kernel
theorem dL_alike_0 : decode cL_alike 0 = .ok (.aload_n 3, 1) := by decide +kernel
theorem dL_alike_1 : decode cL_alike 1 = .ok (.iconst 0, 1) := by decide +kernel
theorem dL_alike_2 : decode cL_alike 2 = .ok (.aload_n 0, 1) := by decide +kernel
theorem dL_alike_3 : decode cL_alike 3 = .ok (.iload_n 1, 1) := by decide +kernel
theorem dL_alike_4 : decode cL_alike 4 = .ok (.iload_n 2, 1) := by decide +kernel
theorem dL_alike_5 : decode cL_alike 5 = .ok (.invokevirtual 83, 3) := by decide +kernel
theorem dL_alike_8 : decode cL_alike 8 = .ok (.ifCond .eq 7, 3) := by decide +kernel
theorem dL_alike_11 : decode cL_alike 11 = .ok (.lconst 1, 1) := by decide +kernel
theorem dL_alike_12 : decode cL_alike 12 = .ok (.goto 4, 3) := by decide +kernel
theorem dL_alike_15 : decode cL_alike 15 = .ok (.lconst 0, 1) := by decide +kernel
theorem dL_alike_16 : decode cL_alike 16 = .ok (.lastore, 1) := by decide +kernel
theorem dL_alike_17 : decode cL_alike 17 = .ok (.goto 7, 3) := by decide +kernel
theorem dL_alike_20 : decode cL_alike 20 = .ok (.astore 4, 2) := by decide +kernel
theorem dL_alike_22 : decode cL_alike 22 = .ok (.iconst 1, 1) := by decide +kernel
theorem dL_alike_23 : decode cL_alike 23 = .ok (.ireturn, 1) := by decide +kernel
theorem dL_alike_24 : decode cL_alike 24 = .ok (.iconst 0, 1) := by decide +kernel
theorem dL_alike_25 : decode cL_alike 25 = .ok (.ireturn, 1) := by decide +kernel
theorem dL_bodyType_0 : decode cL_bodyType 0 = .ok (.aload_n 3, 1) := by decide +kernel
theorem dL_bodyType_1 : decode cL_bodyType 1 = .ok (.iconst 0, 1) := by decide +kernel
theorem dL_bodyType_2 : decode cL_bodyType 2 = .ok (.aload_n 0, 1) := by decide +kernel
theorem dL_bodyType_3 : decode cL_bodyType 3 = .ok (.iload_n 1, 1) := by decide +kernel
theorem dL_bodyType_4 : decode cL_bodyType 4 = .ok (.iload_n 2, 1) := by decide +kernel
theorem dL_bodyType_5 : decode cL_bodyType 5 = .ok (.invokevirtual 86, 3) := by decide +kernel
theorem dL_bodyType_8 : decode cL_bodyType 8 = .ok (.i2l, 1) := by decide +kernel
theorem dL_bodyType_9 : decode cL_bodyType 9 = .ok (.lastore, 1) := by decide +kernel
theorem dL_bodyType_10 : decode cL_bodyType 10 = .ok (.goto 11, 3) := by decide +kernel
theorem dL_bodyType_13 : decode cL_bodyType 13 = .ok (.astore 4, 2) := by decide +kernel
theorem dL_bodyType_15 : decode cL_bodyType 15 = .ok (.iconst 1, 1) := by decide +kernel
theorem dL_bodyType_16 : decode cL_bodyType 16 = .ok (.ireturn, 1) := by decide +kernel
theorem dL_bodyType_17 : decode cL_bodyType 17 = .ok (.astore 4, 2) := by decide +kernel
theorem dL_bodyType_19 : decode cL_bodyType 19 = .ok (.iconst 2, 1) := by decide +kernel
theorem dL_bodyType_20 : decode cL_bodyType 20 = .ok (.ireturn, 1) := by decide +kernel
theorem dL_bodyType_21 : decode cL_bodyType 21 = .ok (.iconst 0, 1) := by decide +kernel
theorem dL_bodyType_22 : decode cL_bodyType 22 = .ok (.ireturn, 1) := by decide +kernel
theorem dL_bodyValue_0 : decode cL_bodyValue 0 = .ok (.aload 6, 2) := by decide +kernel
theorem dL_bodyValue_2 : decode cL_bodyValue 2 = .ok (.iconst 0, 1) := by decide +kernel
theorem dL_bodyValue_3 : decode cL_bodyValue 3 = .ok (.aload_n 0, 1) := by decide +kernel
theorem dL_bodyValue_4 : decode cL_bodyValue 4 = .ok (.iload_n 1, 1) := by decide +kernel
theorem dL_bodyValue_5 : decode cL_bodyValue 5 = .ok (.iload_n 2, 1) := by decide +kernel
theorem dL_bodyValue_6 : decode cL_bodyValue 6 = .ok (.iload_n 3, 1) := by decide +kernel
theorem dL_bodyValue_7 : decode cL_bodyValue 7 = .ok (.iload 4, 2) := by decide +kernel
theorem dL_bodyValue_9 : decode cL_bodyValue 9 = .ok (.iload 5, 2) := by decide +kernel
theorem dL_bodyValue_11 : decode cL_bodyValue 11 = .ok (.invokevirtual 89, 3) := by decide +kernel
theorem dL_bodyValue_14 : decode cL_bodyValue 14 = .ok (.i2l, 1) := by decide +kernel
theorem dL_bodyValue_15 : decode cL_bodyValue 15 = .ok (.lastore, 1) := by decide +kernel
theorem dL_bodyValue_16 : decode cL_bodyValue 16 = .ok (.goto 15, 3) := by decide +kernel
theorem dL_bodyValue_19 : decode cL_bodyValue 19 = .ok (.astore 7, 2) := by decide +kernel
theorem dL_bodyValue_21 : decode cL_bodyValue 21 = .ok (.iconst 1, 1) := by decide +kernel
theorem dL_bodyValue_22 : decode cL_bodyValue 22 = .ok (.ireturn, 1) := by decide +kernel
theorem dL_bodyValue_23 : decode cL_bodyValue 23 = .ok (.astore 7, 2) := by decide +kernel
theorem dL_bodyValue_25 : decode cL_bodyValue 25 = .ok (.iconst 2, 1) := by decide +kernel
theorem dL_bodyValue_26 : decode cL_bodyValue 26 = .ok (.ireturn, 1) := by decide +kernel
theorem dL_bodyValue_27 : decode cL_bodyValue 27 = .ok (.astore 7, 2) := by decide +kernel
theorem dL_bodyValue_29 : decode cL_bodyValue 29 = .ok (.iconst 3, 1) := by decide +kernel
theorem dL_bodyValue_30 : decode cL_bodyValue 30 = .ok (.ireturn, 1) := by decide +kernel
theorem dL_bodyValue_31 : decode cL_bodyValue 31 = .ok (.iconst 0, 1) := by decide +kernel
theorem dL_bodyValue_32 : decode cL_bodyValue 32 = .ok (.ireturn, 1) := by decide +kernel
theorem dL_functor_0 : decode cL_functor 0 = .ok (.aload 4, 2) := by decide +kernel
theorem dL_functor_2 : decode cL_functor 2 = .ok (.iconst 0, 1) := by decide +kernel
theorem dL_functor_3 : decode cL_functor 3 = .ok (.aload_n 0, 1) := by decide +kernel
theorem dL_functor_4 : decode cL_functor 4 = .ok (.iload_n 1, 1) := by decide +kernel
theorem dL_functor_5 : decode cL_functor 5 = .ok (.iload_n 2, 1) := by decide +kernel
theorem dL_functor_6 : decode cL_functor 6 = .ok (.iload_n 3, 1) := by decide +kernel
theorem dL_functor_7 : decode cL_functor 7 = .ok (.invokevirtual 93, 3) := by decide +kernel
theorem dL_functor_10 : decode cL_functor 10 = .ok (.i2l, 1) := by decide +kernel
theorem dL_functor_11 : decode cL_functor 11 = .ok (.lastore, 1) := by decide +kernel
theorem dL_functor_12 : decode cL_functor 12 = .ok (.goto 11, 3) := by decide +kernel
theorem dL_functor_15 : decode cL_functor 15 = .ok (.astore 5, 2) := by decide +kernel
theorem dL_functor_17 : decode cL_functor 17 = .ok (.iconst 1, 1) := by decide +kernel
theorem dL_functor_18 : decode cL_functor 18 = .ok (.ireturn, 1) := by decide +kernel
theorem dL_functor_19 : decode cL_functor 19 = .ok (.astore 5, 2) := by decide +kernel
theorem dL_functor_21 : decode cL_functor 21 = .ok (.iconst 2, 1) := by decide +kernel
theorem dL_functor_22 : decode cL_functor 22 = .ok (.ireturn, 1) := by decide +kernel
theorem dL_functor_23 : decode cL_functor 23 = .ok (.iconst 0, 1) := by decide +kernel
theorem dL_functor_24 : decode cL_functor 24 = .ok (.ireturn, 1) := by decide +kernel
theorem dL_apply_0 : decode cL_apply 0 = .ok (.aload_n 3, 1) := by decide +kernel
theorem dL_apply_1 : decode cL_apply 1 = .ok (.iconst 0, 1) := by decide +kernel
theorem dL_apply_2 : decode cL_apply 2 = .ok (.aload_n 0, 1) := by decide +kernel
theorem dL_apply_3 : decode cL_apply 3 = .ok (.iload_n 1, 1) := by decide +kernel
theorem dL_apply_4 : decode cL_apply 4 = .ok (.iload_n 2, 1) := by decide +kernel
theorem dL_apply_5 : decode cL_apply 5 = .ok (.invokevirtual 97, 3) := by decide +kernel
theorem dL_apply_8 : decode cL_apply 8 = .ok (.i2l, 1) := by decide +kernel
theorem dL_apply_9 : decode cL_apply 9 = .ok (.lastore, 1) := by decide +kernel
theorem dL_apply_10 : decode cL_apply 10 = .ok (.goto 11, 3) := by decide +kernel
theorem dL_apply_13 : decode cL_apply 13 = .ok (.astore 4, 2) := by decide +kernel
theorem dL_apply_15 : decode cL_apply 15 = .ok (.iconst 1, 1) := by decide +kernel
theorem dL_apply_16 : decode cL_apply 16 = .ok (.ireturn, 1) := by decide +kernel
theorem dL_apply_17 : decode cL_apply 17 = .ok (.astore 4, 2) := by decide +kernel
theorem dL_apply_19 : decode cL_apply 19 = .ok (.iconst 2, 1) := by decide +kernel
theorem dL_apply_20 : decode cL_apply 20 = .ok (.ireturn, 1) := by decide +kernel
theorem dL_apply_21 : decode cL_apply 21 = .ok (.iconst 0, 1) := by decide +kernel
theorem dL_apply_22 : decode cL_apply 22 = .ok (.ireturn, 1) := by decide +kernel
theorem dL_pack_0 : decode cL_pack 0 = .ok (.aload_n 3, 1) := by decide +kernel
theorem dL_pack_1 : decode cL_pack 1 = .ok (.iconst 0, 1) := by decide +kernel
theorem dL_pack_2 : decode cL_pack 2 = .ok (.aload_n 0, 1) := by decide +kernel
theorem dL_pack_3 : decode cL_pack 3 = .ok (.iload_n 1, 1) := by decide +kernel
theorem dL_pack_4 : decode cL_pack 4 = .ok (.iload_n 2, 1) := by decide +kernel
theorem dL_pack_5 : decode cL_pack 5 = .ok (.invokevirtual 100, 3) := by decide +kernel
theorem dL_pack_8 : decode cL_pack 8 = .ok (.i2l, 1) := by decide +kernel
theorem dL_pack_9 : decode cL_pack 9 = .ok (.lastore, 1) := by decide +kernel
theorem dL_pack_10 : decode cL_pack 10 = .ok (.goto 11, 3) := by decide +kernel
theorem dL_pack_13 : decode cL_pack 13 = .ok (.astore 4, 2) := by decide +kernel
theorem dL_pack_15 : decode cL_pack 15 = .ok (.iconst 1, 1) := by decide +kernel
theorem dL_pack_16 : decode cL_pack 16 = .ok (.ireturn, 1) := by decide +kernel
theorem dL_pack_17 : decode cL_pack 17 = .ok (.astore 4, 2) := by decide +kernel
theorem dL_pack_19 : decode cL_pack 19 = .ok (.iconst 2, 1) := by decide +kernel
theorem dL_pack_20 : decode cL_pack 20 = .ok (.ireturn, 1) := by decide +kernel
theorem dL_pack_21 : decode cL_pack 21 = .ok (.iconst 0, 1) := by decide +kernel
theorem dL_pack_22 : decode cL_pack 22 = .ok (.ireturn, 1) := by decide +kernel
theorem dL_unpack_0 : decode cL_unpack 0 = .ok (.aload_n 2, 1) := by decide +kernel
theorem dL_unpack_1 : decode cL_unpack 1 = .ok (.iconst 0, 1) := by decide +kernel
theorem dL_unpack_2 : decode cL_unpack 2 = .ok (.aload_n 0, 1) := by decide +kernel
theorem dL_unpack_3 : decode cL_unpack 3 = .ok (.iload_n 1, 1) := by decide +kernel
theorem dL_unpack_4 : decode cL_unpack 4 = .ok (.invokevirtual 103, 3) := by decide +kernel
theorem dL_unpack_7 : decode cL_unpack 7 = .ok (.i2l, 1) := by decide +kernel
theorem dL_unpack_8 : decode cL_unpack 8 = .ok (.lastore, 1) := by decide +kernel
theorem dL_unpack_9 : decode cL_unpack 9 = .ok (.goto 9, 3) := by decide +kernel
theorem dL_unpack_12 : decode cL_unpack 12 = .ok (.astore_n 3, 1) := by decide +kernel
theorem dL_unpack_13 : decode cL_unpack 13 = .ok (.iconst 1, 1) := by decide +kernel
theorem dL_unpack_14 : decode cL_unpack 14 = .ok (.ireturn, 1) := by decide +kernel
theorem dL_unpack_15 : decode cL_unpack 15 = .ok (.astore_n 3, 1) := by decide +kernel
theorem dL_unpack_16 : decode cL_unpack 16 = .ok (.iconst 2, 1) := by decide +kernel
theorem dL_unpack_17 : decode cL_unpack 17 = .ok (.ireturn, 1) := by decide +kernel
theorem dL_unpack_18 : decode cL_unpack 18 = .ok (.iconst 0, 1) := by decide +kernel
theorem dL_unpack_19 : decode cL_unpack 19 = .ok (.ireturn, 1) := by decide +kernel
theorem dL_unit_0 : decode cL_unit 0 = .ok (.aload 4, 2) := by decide +kernel
theorem dL_unit_2 : decode cL_unit 2 = .ok (.iconst 0, 1) := by decide +kernel
theorem dL_unit_3 : decode cL_unit 3 = .ok (.aload_n 0, 1) := by decide +kernel
theorem dL_unit_4 : decode cL_unit 4 = .ok (.iload_n 1, 1) := by decide +kernel
theorem dL_unit_5 : decode cL_unit 5 = .ok (.iload_n 2, 1) := by decide +kernel
theorem dL_unit_6 : decode cL_unit 6 = .ok (.iload_n 3, 1) := by decide +kernel
theorem dL_unit_7 : decode cL_unit 7 = .ok (.invokevirtual 106, 3) := by decide +kernel
theorem dL_unit_10 : decode cL_unit 10 = .ok (.i2l, 1) := by decide +kernel
theorem dL_unit_11 : decode cL_unit 11 = .ok (.lastore, 1) := by decide +kernel
theorem dL_unit_12 : decode cL_unit 12 = .ok (.goto 11, 3) := by decide +kernel
theorem dL_unit_15 : decode cL_unit 15 = .ok (.astore 5, 2) := by decide +kernel
theorem dL_unit_17 : decode cL_unit 17 = .ok (.iconst 1, 1) := by decide +kernel
theorem dL_unit_18 : decode cL_unit 18 = .ok (.ireturn, 1) := by decide +kernel
theorem dL_unit_19 : decode cL_unit 19 = .ok (.astore 5, 2) := by decide +kernel
theorem dL_unit_21 : decode cL_unit 21 = .ok (.iconst 2, 1) := by decide +kernel
theorem dL_unit_22 : decode cL_unit 22 = .ok (.ireturn, 1) := by decide +kernel
theorem dL_unit_23 : decode cL_unit 23 = .ok (.iconst 0, 1) := by decide +kernel
theorem dL_unit_24 : decode cL_unit 24 = .ok (.ireturn, 1) := by decide +kernel
theorem dL_change_0 : decode cL_change 0 = .ok (.aload_n 3, 1) := by decide +kernel
theorem dL_change_1 : decode cL_change 1 = .ok (.iconst 0, 1) := by decide +kernel
theorem dL_change_2 : decode cL_change 2 = .ok (.aload_n 0, 1) := by decide +kernel
theorem dL_change_3 : decode cL_change 3 = .ok (.iload_n 1, 1) := by decide +kernel
theorem dL_change_4 : decode cL_change 4 = .ok (.iload_n 2, 1) := by decide +kernel
theorem dL_change_5 : decode cL_change 5 = .ok (.invokevirtual 109, 3) := by decide +kernel
theorem dL_change_8 : decode cL_change 8 = .ok (.i2l, 1) := by decide +kernel
theorem dL_change_9 : decode cL_change 9 = .ok (.lastore, 1) := by decide +kernel
theorem dL_change_10 : decode cL_change 10 = .ok (.goto 7, 3) := by decide +kernel
theorem dL_change_13 : decode cL_change 13 = .ok (.astore 4, 2) := by decide +kernel
theorem dL_change_15 : decode cL_change 15 = .ok (.iconst 1, 1) := by decide +kernel
theorem dL_change_16 : decode cL_change 16 = .ok (.ireturn, 1) := by decide +kernel
theorem dL_change_17 : decode cL_change 17 = .ok (.iconst 0, 1) := by decide +kernel
theorem dL_change_18 : decode cL_change 18 = .ok (.ireturn, 1) := by decide +kernel
theorem tL_k13 : Cond.classLink RL 13 (cEx 0) ∈ rgT := rgT_of 264 (by decide +kernel) (by decide +kernel)
theorem tL_k15 : Cond.classLink RL 15 (cEx 2) ∈ rgT := rgT_of 265 (by decide +kernel) (by decide +kernel)
theorem tL_k20 : Cond.classLink RL 20 (cEx 1) ∈ rgT := rgT_of 379 (by decide +kernel) (by decide +kernel)
theorem tL_cast0 : Cond.castable (cEx 0) (cEx 0) ∈ cNl := cNl_of 280 (by decide +kernel) rfl
theorem tL_cast1 : Cond.castable (cEx 1) (cEx 1) ∈ cNl := cNl_of 396 (by decide +kernel) rfl
theorem tL_cast2 : Cond.castable (cEx 2) (cEx 2) ∈ cNl := cNl_of 362 (by decide +kernel) rfl
theorem cOi_e : ∀ (o : Int32 ⊕ Nat) (e : Nat), cOi o = .inr e → o = .inr e := fun o e h => by cases o <;> cases h; rfl
theorem tL_init : Cond.initialized RL ∈ rgT := rgT_of 79 (by decide +kernel) (by decide +kernel)
theorem tL_l29 : Cond.methodLink RL 29 yX6_addPart ∈ rgT := rgT_of 460 (by decide +kernel) (by decide +kernel)
theorem tLI_X6_addPart : Cond.instanceMethod yX6_addPart ∈ rgT := rgT_of 461 (by decide +kernel) (by decide +kernel)
theorem tLS_X6_addPart : Cond.selects RX6 yX6_addPart yX6_addPart ∈ rgT := rgT_of 462 (by decide +kernel) (by decide +kernel)
theorem tLC_X6_addPart : Cond.code yX6_addPart cX6_addPart 3 (some .boolean) ∈ rgT := rgT_of 463 (by decide +kernel) (by decide +kernel)
theorem tLH_X6_addPart : cHd yX6_addPart 2 := by unfold cHd; decide +kernel
theorem tL_l22 : Cond.methodLink RL 22 yX6_addType ∈ rgT := rgT_of 413 (by decide +kernel) (by decide +kernel)
theorem tLI_X6_addType : Cond.instanceMethod yX6_addType ∈ rgT := rgT_of 414 (by decide +kernel) (by decide +kernel)
theorem tLS_X6_addType : Cond.selects RX6 yX6_addType yX6_addType ∈ rgT := rgT_of 415 (by decide +kernel) (by decide +kernel)
theorem tLC_X6_addType : Cond.code yX6_addType cX6_addType 4 (some .int) ∈ rgT := rgT_of 416 (by decide +kernel) (by decide +kernel)
theorem tLH_X6_addType : cHd yX6_addType 2 := by unfold cHd; decide +kernel
theorem tL_l25 : Cond.methodLink RL 25 yX6_addValue ∈ rgT := rgT_of 449 (by decide +kernel) (by decide +kernel)
theorem tLI_X6_addValue : Cond.instanceMethod yX6_addValue ∈ rgT := rgT_of 450 (by decide +kernel) (by decide +kernel)
theorem tLS_X6_addValue : Cond.selects RX6 yX6_addValue yX6_addValue ∈ rgT := rgT_of 451 (by decide +kernel) (by decide +kernel)
theorem tLC_X6_addValue : Cond.code yX6_addValue cX6_addValue 4 (some .boolean) ∈ rgT := rgT_of 452 (by decide +kernel) (by decide +kernel)
theorem tLH_X6_addValue : cHd yX6_addValue 3 := by unfold cHd; decide +kernel
theorem tL_l83 : Cond.methodLink RL 83 yX6_alike ∈ rgT := rgT_of 655 (by decide +kernel) (by decide +kernel)
theorem tLI_X6_alike : Cond.instanceMethod yX6_alike ∈ rgT := rgT_of 656 (by decide +kernel) (by decide +kernel)
theorem tLS_X6_alike : Cond.selects RX6 yX6_alike yX6_alike ∈ rgT := rgT_of 657 (by decide +kernel) (by decide +kernel)
theorem tLC_X6_alike : Cond.code yX6_alike cX6_alike 3 (some .boolean) ∈ rgT := rgT_of 658 (by decide +kernel) (by decide +kernel)
theorem tLH_X6_alike : cHd yX6_alike 2 := by unfold cHd; decide +kernel
theorem tL_l97 : Cond.methodLink RL 97 yX6_apply ∈ rgT := rgT_of 713 (by decide +kernel) (by decide +kernel)
theorem tLI_X6_apply : Cond.instanceMethod yX6_apply ∈ rgT := rgT_of 714 (by decide +kernel) (by decide +kernel)
theorem tLS_X6_apply : Cond.selects RX6 yX6_apply yX6_apply ∈ rgT := rgT_of 715 (by decide +kernel) (by decide +kernel)
theorem tLC_X6_apply : Cond.code yX6_apply cX6_apply 8 (some .int) ∈ rgT := rgT_of 716 (by decide +kernel) (by decide +kernel)
theorem tLH_X6_apply : cHd yX6_apply 2 := by unfold cHd; decide +kernel
theorem tL_l7 : Cond.methodLink RL 7 yX6_arrow ∈ rgT := rgT_of 266 (by decide +kernel) (by decide +kernel)
theorem tLI_X6_arrow : Cond.instanceMethod yX6_arrow ∈ rgT := rgT_of 267 (by decide +kernel) (by decide +kernel)
theorem tLS_X6_arrow : Cond.selects RX6 yX6_arrow yX6_arrow ∈ rgT := rgT_of 268 (by decide +kernel) (by decide +kernel)
theorem tLC_X6_arrow : Cond.code yX6_arrow cX6_arrow 4 (some .int) ∈ rgT := rgT_of 269 (by decide +kernel) (by decide +kernel)
theorem tLH_X6_arrow : cHd yX6_arrow 2 := by unfold cHd; decide +kernel
theorem tL_l86 : Cond.methodLink RL 86 yX6_bodyType ∈ rgT := rgT_of 662 (by decide +kernel) (by decide +kernel)
theorem tLI_X6_bodyType : Cond.instanceMethod yX6_bodyType ∈ rgT := rgT_of 663 (by decide +kernel) (by decide +kernel)
theorem tLS_X6_bodyType : Cond.selects RX6 yX6_bodyType yX6_bodyType ∈ rgT := rgT_of 664 (by decide +kernel) (by decide +kernel)
theorem tLC_X6_bodyType : Cond.code yX6_bodyType cX6_bodyType 3 (some .int) ∈ rgT := rgT_of 665 (by decide +kernel) (by decide +kernel)
theorem tLH_X6_bodyType : cHd yX6_bodyType 2 := by unfold cHd; decide +kernel
theorem tL_l89 : Cond.methodLink RL 89 yX6_bodyValue ∈ rgT := rgT_of 669 (by decide +kernel) (by decide +kernel)
theorem tLI_X6_bodyValue : Cond.instanceMethod yX6_bodyValue ∈ rgT := rgT_of 670 (by decide +kernel) (by decide +kernel)
theorem tLS_X6_bodyValue : Cond.selects RX6 yX6_bodyValue yX6_bodyValue ∈ rgT := rgT_of 671 (by decide +kernel) (by decide +kernel)
theorem tLC_X6_bodyValue : Cond.code yX6_bodyValue cX6_bodyValue 6 (some .int) ∈ rgT := rgT_of 672 (by decide +kernel) (by decide +kernel)
theorem tLH_X6_bodyValue : cHd yX6_bodyValue 5 := by unfold cHd; decide +kernel
theorem tL_l109 : Cond.methodLink RL 109 yX6_change ∈ rgT := rgT_of 820 (by decide +kernel) (by decide +kernel)
theorem tLI_X6_change : Cond.instanceMethod yX6_change ∈ rgT := rgT_of 821 (by decide +kernel) (by decide +kernel)
theorem tLS_X6_change : Cond.selects RX6 yX6_change yX6_change ∈ rgT := rgT_of 822 (by decide +kernel) (by decide +kernel)
theorem tLC_X6_change : Cond.code yX6_change cX6_change 4 (some .int) ∈ rgT := rgT_of 823 (by decide +kernel) (by decide +kernel)
theorem tLH_X6_change : cHd yX6_change 2 := by unfold cHd; decide +kernel
theorem tL_l80 : Cond.methodLink RL 80 yX6_finer ∈ rgT := rgT_of 648 (by decide +kernel) (by decide +kernel)
theorem tLI_X6_finer : Cond.instanceMethod yX6_finer ∈ rgT := rgT_of 649 (by decide +kernel) (by decide +kernel)
theorem tLS_X6_finer : Cond.selects RX6 yX6_finer yX6_finer ∈ rgT := rgT_of 650 (by decide +kernel) (by decide +kernel)
theorem tLC_X6_finer : Cond.code yX6_finer cX6_finer 3 (some .boolean) ∈ rgT := rgT_of 651 (by decide +kernel) (by decide +kernel)
theorem tLH_X6_finer : cHd yX6_finer 2 := by unfold cHd; decide +kernel
theorem tL_l93 : Cond.methodLink RL 93 yX6_functor ∈ rgT := rgT_of 676 (by decide +kernel) (by decide +kernel)
theorem tLI_X6_functor : Cond.instanceMethod yX6_functor ∈ rgT := rgT_of 677 (by decide +kernel) (by decide +kernel)
theorem tLS_X6_functor : Cond.selects RX6 yX6_functor yX6_functor ∈ rgT := rgT_of 678 (by decide +kernel) (by decide +kernel)
theorem tLC_X6_functor : Cond.code yX6_functor cX6_functor 8 (some .int) ∈ rgT := rgT_of 679 (by decide +kernel) (by decide +kernel)
theorem tLH_X6_functor : cHd yX6_functor 3 := by unfold cHd; decide +kernel
theorem tL_l58 : Cond.methodLink RL 58 yX6_include ∈ rgT := rgT_of 558 (by decide +kernel) (by decide +kernel)
theorem tLI_X6_include : Cond.instanceMethod yX6_include ∈ rgT := rgT_of 559 (by decide +kernel) (by decide +kernel)
theorem tLS_X6_include : Cond.selects RX6 yX6_include yX6_include ∈ rgT := rgT_of 560 (by decide +kernel) (by decide +kernel)
theorem tLC_X6_include : Cond.code yX6_include cX6_include 4 (some .int) ∈ rgT := rgT_of 561 (by decide +kernel) (by decide +kernel)
theorem tLH_X6_include : cHd yX6_include 1 := by unfold cHd; decide +kernel
theorem tL_l41 : Cond.methodLink RL 41 yX6_item ∈ rgT := rgT_of 506 (by decide +kernel) (by decide +kernel)
theorem tLI_X6_item : Cond.instanceMethod yX6_item ∈ rgT := rgT_of 507 (by decide +kernel) (by decide +kernel)
theorem tLS_X6_item : Cond.selects RX6 yX6_item yX6_item ∈ rgT := rgT_of 508 (by decide +kernel) (by decide +kernel)
theorem tLC_X6_item : Cond.code yX6_item cX6_item 7 (some .int) ∈ rgT := rgT_of 509 (by decide +kernel) (by decide +kernel)
theorem tLH_X6_item : cHd yX6_item 4 := by unfold cHd; decide +kernel
theorem tL_l45 : Cond.methodLink RL 45 yX6_items ∈ rgT := rgT_of 515 (by decide +kernel) (by decide +kernel)
theorem tLI_X6_items : Cond.instanceMethod yX6_items ∈ rgT := rgT_of 516 (by decide +kernel) (by decide +kernel)
theorem tLS_X6_items : Cond.selects RX6 yX6_items yX6_items ∈ rgT := rgT_of 517 (by decide +kernel) (by decide +kernel)
theorem tLC_X6_items : Cond.code yX6_items cX6_items 3 (some .int) ∈ rgT := rgT_of 518 (by decide +kernel) (by decide +kernel)
theorem tLH_X6_items : cHd yX6_items 1 := by unfold cHd; decide +kernel
theorem tL_l71 : Cond.methodLink RL 71 yX6_match ∈ rgT := rgT_of 595 (by decide +kernel) (by decide +kernel)
theorem tLI_X6_match : Cond.instanceMethod yX6_match ∈ rgT := rgT_of 596 (by decide +kernel) (by decide +kernel)
theorem tLS_X6_match : Cond.selects RX6 yX6_match yX6_match ∈ rgT := rgT_of 597 (by decide +kernel) (by decide +kernel)
theorem tLC_X6_match : Cond.code yX6_match cX6_match 3 (some .int) ∈ rgT := rgT_of 598 (by decide +kernel) (by decide +kernel)
theorem tLH_X6_match : cHd yX6_match 2 := by unfold cHd; decide +kernel
theorem tL_l33 : Cond.methodLink RL 33 yX6_open ∈ rgT := rgT_of 471 (by decide +kernel) (by decide +kernel)
theorem tLI_X6_open : Cond.instanceMethod yX6_open ∈ rgT := rgT_of 472 (by decide +kernel) (by decide +kernel)
theorem tLS_X6_open : Cond.selects RX6 yX6_open yX6_open ∈ rgT := rgT_of 473 (by decide +kernel) (by decide +kernel)
theorem tLC_X6_open : Cond.code yX6_open cX6_open 5 (some .int) ∈ rgT := rgT_of 474 (by decide +kernel) (by decide +kernel)
theorem tLH_X6_open : cHd yX6_open 1 := by unfold cHd; decide +kernel
theorem tL_l100 : Cond.methodLink RL 100 yX6_pack ∈ rgT := rgT_of 752 (by decide +kernel) (by decide +kernel)
theorem tLI_X6_pack : Cond.instanceMethod yX6_pack ∈ rgT := rgT_of 753 (by decide +kernel) (by decide +kernel)
theorem tLS_X6_pack : Cond.selects RX6 yX6_pack yX6_pack ∈ rgT := rgT_of 754 (by decide +kernel) (by decide +kernel)
theorem tLC_X6_pack : Cond.code yX6_pack cX6_pack 4 (some .int) ∈ rgT := rgT_of 755 (by decide +kernel) (by decide +kernel)
theorem tLH_X6_pack : cHd yX6_pack 2 := by unfold cHd; decide +kernel
theorem tL_l74 : Cond.methodLink RL 74 yX6_seal ∈ rgT := rgT_of 620 (by decide +kernel) (by decide +kernel)
theorem tLI_X6_seal : Cond.instanceMethod yX6_seal ∈ rgT := rgT_of 621 (by decide +kernel) (by decide +kernel)
theorem tLS_X6_seal : Cond.selects RX6 yX6_seal yX6_seal ∈ rgT := rgT_of 622 (by decide +kernel) (by decide +kernel)
theorem tLC_X6_seal : Cond.code yX6_seal cX6_seal 3 (some .int) ∈ rgT := rgT_of 623 (by decide +kernel) (by decide +kernel)
theorem tLH_X6_seal : cHd yX6_seal 2 := by unfold cHd; decide +kernel
theorem tL_l61 : Cond.methodLink RL 61 yX6_signature ∈ rgT := rgT_of 566 (by decide +kernel) (by decide +kernel)
theorem tLI_X6_signature : Cond.instanceMethod yX6_signature ∈ rgT := rgT_of 567 (by decide +kernel) (by decide +kernel)
theorem tLS_X6_signature : Cond.selects RX6 yX6_signature yX6_signature ∈ rgT := rgT_of 568 (by decide +kernel) (by decide +kernel)
theorem tLC_X6_signature : Cond.code yX6_signature cX6_signature 2 (some .int) ∈ rgT := rgT_of 569 (by decide +kernel) (by decide +kernel)
theorem tLH_X6_signature : cHd yX6_signature 0 := by unfold cHd; decide +kernel
theorem tL_l55 : Cond.methodLink RL 55 yX6_specPart ∈ rgT := rgT_of 550 (by decide +kernel) (by decide +kernel)
theorem tLI_X6_specPart : Cond.instanceMethod yX6_specPart ∈ rgT := rgT_of 551 (by decide +kernel) (by decide +kernel)
theorem tLS_X6_specPart : Cond.selects RX6 yX6_specPart yX6_specPart ∈ rgT := rgT_of 552 (by decide +kernel) (by decide +kernel)
theorem tLC_X6_specPart : Cond.code yX6_specPart cX6_specPart 4 (some .int) ∈ rgT := rgT_of 553 (by decide +kernel) (by decide +kernel)
theorem tLH_X6_specPart : cHd yX6_specPart 2 := by unfold cHd; decide +kernel
theorem tL_l48 : Cond.methodLink RL 48 yX6_specType ∈ rgT := rgT_of 522 (by decide +kernel) (by decide +kernel)
theorem tLI_X6_specType : Cond.instanceMethod yX6_specType ∈ rgT := rgT_of 523 (by decide +kernel) (by decide +kernel)
theorem tLS_X6_specType : Cond.selects RX6 yX6_specType yX6_specType ∈ rgT := rgT_of 524 (by decide +kernel) (by decide +kernel)
theorem tLC_X6_specType : Cond.code yX6_specType cX6_specType 3 (some .int) ∈ rgT := rgT_of 525 (by decide +kernel) (by decide +kernel)
theorem tLH_X6_specType : cHd yX6_specType 2 := by unfold cHd; decide +kernel
theorem tL_l51 : Cond.methodLink RL 51 yX6_specValue ∈ rgT := rgT_of 543 (by decide +kernel) (by decide +kernel)
theorem tLI_X6_specValue : Cond.instanceMethod yX6_specValue ∈ rgT := rgT_of 544 (by decide +kernel) (by decide +kernel)
theorem tLS_X6_specValue : Cond.selects RX6 yX6_specValue yX6_specValue ∈ rgT := rgT_of 545 (by decide +kernel) (by decide +kernel)
theorem tLC_X6_specValue : Cond.code yX6_specValue cX6_specValue 4 (some .int) ∈ rgT := rgT_of 546 (by decide +kernel) (by decide +kernel)
theorem tLH_X6_specValue : cHd yX6_specValue 3 := by unfold cHd; decide +kernel
theorem tL_l68 : Cond.methodLink RL 68 yX6_specs ∈ rgT := rgT_of 588 (by decide +kernel) (by decide +kernel)
theorem tLI_X6_specs : Cond.instanceMethod yX6_specs ∈ rgT := rgT_of 589 (by decide +kernel) (by decide +kernel)
theorem tLS_X6_specs : Cond.selects RX6 yX6_specs yX6_specs ∈ rgT := rgT_of 590 (by decide +kernel) (by decide +kernel)
theorem tLC_X6_specs : Cond.code yX6_specs cX6_specs 3 (some .int) ∈ rgT := rgT_of 591 (by decide +kernel) (by decide +kernel)
theorem tLH_X6_specs : cHd yX6_specs 1 := by unfold cHd; decide +kernel
theorem tL_l37 : Cond.methodLink RL 37 yX6_structure ∈ rgT := rgT_of 479 (by decide +kernel) (by decide +kernel)
theorem tLI_X6_structure : Cond.instanceMethod yX6_structure ∈ rgT := rgT_of 480 (by decide +kernel) (by decide +kernel)
theorem tLS_X6_structure : Cond.selects RX6 yX6_structure yX6_structure ∈ rgT := rgT_of 481 (by decide +kernel) (by decide +kernel)
theorem tLC_X6_structure : Cond.code yX6_structure cX6_structure 2 (some .int) ∈ rgT := rgT_of 482 (by decide +kernel) (by decide +kernel)
theorem tLH_X6_structure : cHd yX6_structure 0 := by unfold cHd; decide +kernel
theorem tL_l17 : Cond.methodLink RL 17 yX6_type ∈ rgT := rgT_of 380 (by decide +kernel) (by decide +kernel)
theorem tLI_X6_type : Cond.instanceMethod yX6_type ∈ rgT := rgT_of 381 (by decide +kernel) (by decide +kernel)
theorem tLS_X6_type : Cond.selects RX6 yX6_type yX6_type ∈ rgT := rgT_of 382 (by decide +kernel) (by decide +kernel)
theorem tLC_X6_type : Cond.code yX6_type cX6_type 3 (some .int) ∈ rgT := rgT_of 383 (by decide +kernel) (by decide +kernel)
theorem tLH_X6_type : cHd yX6_type 2 := by unfold cHd; decide +kernel
theorem tL_l106 : Cond.methodLink RL 106 yX6_unit ∈ rgT := rgT_of 782 (by decide +kernel) (by decide +kernel)
theorem tLI_X6_unit : Cond.instanceMethod yX6_unit ∈ rgT := rgT_of 783 (by decide +kernel) (by decide +kernel)
theorem tLS_X6_unit : Cond.selects RX6 yX6_unit yX6_unit ∈ rgT := rgT_of 784 (by decide +kernel) (by decide +kernel)
theorem tLC_X6_unit : Cond.code yX6_unit cX6_unit 6 (some .int) ∈ rgT := rgT_of 785 (by decide +kernel) (by decide +kernel)
theorem tLH_X6_unit : cHd yX6_unit 3 := by unfold cHd; decide +kernel
theorem tL_l103 : Cond.methodLink RL 103 yX6_unpack ∈ rgT := rgT_of 774 (by decide +kernel) (by decide +kernel)
theorem tLI_X6_unpack : Cond.instanceMethod yX6_unpack ∈ rgT := rgT_of 775 (by decide +kernel) (by decide +kernel)
theorem tLS_X6_unpack : Cond.selects RX6 yX6_unpack yX6_unpack ∈ rgT := rgT_of 776 (by decide +kernel) (by decide +kernel)
theorem tLC_X6_unpack : Cond.code yX6_unpack cX6_unpack 3 (some .int) ∈ rgT := rgT_of 777 (by decide +kernel) (by decide +kernel)
theorem tLH_X6_unpack : cHd yX6_unpack 1 := by unfold cHd; decide +kernel
theorem tL_l77 : Cond.methodLink RL 77 yX6_view ∈ rgT := rgT_of 641 (by decide +kernel) (by decide +kernel)
theorem tLI_X6_view : Cond.instanceMethod yX6_view ∈ rgT := rgT_of 642 (by decide +kernel) (by decide +kernel)
theorem tLS_X6_view : Cond.selects RX6 yX6_view yX6_view ∈ rgT := rgT_of 643 (by decide +kernel) (by decide +kernel)
theorem tLC_X6_view : Cond.code yX6_view cX6_view 3 (some .int) ∈ rgT := rgT_of 644 (by decide +kernel) (by decide +kernel)
theorem tLH_X6_view : cHd yX6_view 2 := by unfold cHd; decide +kernel
theorem tL_l64 : Cond.methodLink RL 64 yX6_with ∈ rgT := rgT_of 574 (by decide +kernel) (by decide +kernel)
theorem tLI_X6_with : Cond.instanceMethod yX6_with ∈ rgT := rgT_of 575 (by decide +kernel) (by decide +kernel)
theorem tLS_X6_with : Cond.selects RX6 yX6_with yX6_with ∈ rgT := rgT_of 576 (by decide +kernel) (by decide +kernel)
theorem tLC_X6_with : Cond.code yX6_with cX6_with 9 (some .int) ∈ rgT := rgT_of 577 (by decide +kernel) (by decide +kernel)
theorem tLH_X6_with : cHd yX6_with 4 := by unfold cHd; decide +kernel
