/-! ===== the world behind the constructors is the layout ===== -/
def gG1 (G : gG) (ad : Nat → Nat) : gG := (G.1, G.2.1, G.2.2.1, ad, G.2.2.2.2)
def gIx : List Nat := (List.range 9) ++ (List.range 92).map (fun i => i + 10)
def gW (G : gG) (a1 a2 : Nat → Nat) (k : Nat) : Prop := (blkX9 G a1 ++ blkX10 G a2)[gPi k]? = some (gAt a1 a2 (gPi k), gCel (gG1 G (fun k => gAt a1 a2 (gPi k))) (gS0 k) k)
theorem gW_0 (G : gG) (a1 a2 : Nat → Nat) : gW G a1 a2 0 := rfl
theorem gW_1 (G : gG) (a1 a2 : Nat → Nat) : gW G a1 a2 1 := rfl
theorem gW_2 (G : gG) (a1 a2 : Nat → Nat) : gW G a1 a2 2 := rfl
theorem gW_3 (G : gG) (a1 a2 : Nat → Nat) : gW G a1 a2 3 := rfl
theorem gW_4 (G : gG) (a1 a2 : Nat → Nat) : gW G a1 a2 4 := rfl
theorem gW_5 (G : gG) (a1 a2 : Nat → Nat) : gW G a1 a2 5 := rfl
theorem gW_6 (G : gG) (a1 a2 : Nat → Nat) : gW G a1 a2 6 := rfl
theorem gW_7 (G : gG) (a1 a2 : Nat → Nat) : gW G a1 a2 7 := rfl
theorem gW_8 (G : gG) (a1 a2 : Nat → Nat) : gW G a1 a2 8 := rfl
theorem gW_10 (G : gG) (a1 a2 : Nat → Nat) : gW G a1 a2 10 := rfl
theorem gW_11 (G : gG) (a1 a2 : Nat → Nat) : gW G a1 a2 11 := rfl
theorem gW_12 (G : gG) (a1 a2 : Nat → Nat) : gW G a1 a2 12 := rfl
theorem gW_13 (G : gG) (a1 a2 : Nat → Nat) : gW G a1 a2 13 := rfl
theorem gW_14 (G : gG) (a1 a2 : Nat → Nat) : gW G a1 a2 14 := rfl
theorem gW_15 (G : gG) (a1 a2 : Nat → Nat) : gW G a1 a2 15 := rfl
theorem gW_16 (G : gG) (a1 a2 : Nat → Nat) : gW G a1 a2 16 := rfl
theorem gW_17 (G : gG) (a1 a2 : Nat → Nat) : gW G a1 a2 17 := rfl
theorem gW_18 (G : gG) (a1 a2 : Nat → Nat) : gW G a1 a2 18 := rfl
theorem gW_19 (G : gG) (a1 a2 : Nat → Nat) : gW G a1 a2 19 := rfl
theorem gW_20 (G : gG) (a1 a2 : Nat → Nat) : gW G a1 a2 20 := rfl
theorem gW_21 (G : gG) (a1 a2 : Nat → Nat) : gW G a1 a2 21 := rfl
theorem gW_22 (G : gG) (a1 a2 : Nat → Nat) : gW G a1 a2 22 := rfl
theorem gW_23 (G : gG) (a1 a2 : Nat → Nat) : gW G a1 a2 23 := rfl
theorem gW_24 (G : gG) (a1 a2 : Nat → Nat) : gW G a1 a2 24 := rfl
theorem gW_25 (G : gG) (a1 a2 : Nat → Nat) : gW G a1 a2 25 := rfl
theorem gW_26 (G : gG) (a1 a2 : Nat → Nat) : gW G a1 a2 26 := rfl
theorem gW_27 (G : gG) (a1 a2 : Nat → Nat) : gW G a1 a2 27 := rfl
theorem gW_28 (G : gG) (a1 a2 : Nat → Nat) : gW G a1 a2 28 := rfl
theorem gW_29 (G : gG) (a1 a2 : Nat → Nat) : gW G a1 a2 29 := rfl
theorem gW_30 (G : gG) (a1 a2 : Nat → Nat) : gW G a1 a2 30 := rfl
theorem gW_31 (G : gG) (a1 a2 : Nat → Nat) : gW G a1 a2 31 := rfl
theorem gW_32 (G : gG) (a1 a2 : Nat → Nat) : gW G a1 a2 32 := rfl
theorem gW_33 (G : gG) (a1 a2 : Nat → Nat) : gW G a1 a2 33 := rfl
theorem gW_34 (G : gG) (a1 a2 : Nat → Nat) : gW G a1 a2 34 := rfl
theorem gW_35 (G : gG) (a1 a2 : Nat → Nat) : gW G a1 a2 35 := rfl
theorem gW_36 (G : gG) (a1 a2 : Nat → Nat) : gW G a1 a2 36 := rfl
theorem gW_37 (G : gG) (a1 a2 : Nat → Nat) : gW G a1 a2 37 := rfl
theorem gW_38 (G : gG) (a1 a2 : Nat → Nat) : gW G a1 a2 38 := rfl
theorem gW_39 (G : gG) (a1 a2 : Nat → Nat) : gW G a1 a2 39 := rfl
theorem gW_40 (G : gG) (a1 a2 : Nat → Nat) : gW G a1 a2 40 := rfl
theorem gW_41 (G : gG) (a1 a2 : Nat → Nat) : gW G a1 a2 41 := rfl
theorem gW_42 (G : gG) (a1 a2 : Nat → Nat) : gW G a1 a2 42 := rfl
theorem gW_43 (G : gG) (a1 a2 : Nat → Nat) : gW G a1 a2 43 := rfl
theorem gW_44 (G : gG) (a1 a2 : Nat → Nat) : gW G a1 a2 44 := rfl
theorem gW_45 (G : gG) (a1 a2 : Nat → Nat) : gW G a1 a2 45 := rfl
theorem gW_46 (G : gG) (a1 a2 : Nat → Nat) : gW G a1 a2 46 := rfl
theorem gW_47 (G : gG) (a1 a2 : Nat → Nat) : gW G a1 a2 47 := rfl
theorem gW_48 (G : gG) (a1 a2 : Nat → Nat) : gW G a1 a2 48 := rfl
theorem gW_49 (G : gG) (a1 a2 : Nat → Nat) : gW G a1 a2 49 := rfl
theorem gW_50 (G : gG) (a1 a2 : Nat → Nat) : gW G a1 a2 50 := rfl
theorem gW_51 (G : gG) (a1 a2 : Nat → Nat) : gW G a1 a2 51 := rfl
theorem gW_52 (G : gG) (a1 a2 : Nat → Nat) : gW G a1 a2 52 := rfl
theorem gW_53 (G : gG) (a1 a2 : Nat → Nat) : gW G a1 a2 53 := rfl
theorem gW_54 (G : gG) (a1 a2 : Nat → Nat) : gW G a1 a2 54 := rfl
theorem gW_55 (G : gG) (a1 a2 : Nat → Nat) : gW G a1 a2 55 := rfl
theorem gW_56 (G : gG) (a1 a2 : Nat → Nat) : gW G a1 a2 56 := rfl
theorem gW_57 (G : gG) (a1 a2 : Nat → Nat) : gW G a1 a2 57 := rfl
theorem gW_58 (G : gG) (a1 a2 : Nat → Nat) : gW G a1 a2 58 := rfl
theorem gW_59 (G : gG) (a1 a2 : Nat → Nat) : gW G a1 a2 59 := rfl
theorem gW_60 (G : gG) (a1 a2 : Nat → Nat) : gW G a1 a2 60 := rfl
theorem gW_61 (G : gG) (a1 a2 : Nat → Nat) : gW G a1 a2 61 := rfl
theorem gW_62 (G : gG) (a1 a2 : Nat → Nat) : gW G a1 a2 62 := rfl
theorem gW_63 (G : gG) (a1 a2 : Nat → Nat) : gW G a1 a2 63 := rfl
theorem gW_64 (G : gG) (a1 a2 : Nat → Nat) : gW G a1 a2 64 := rfl
theorem gW_65 (G : gG) (a1 a2 : Nat → Nat) : gW G a1 a2 65 := rfl
theorem gW_66 (G : gG) (a1 a2 : Nat → Nat) : gW G a1 a2 66 := rfl
theorem gW_67 (G : gG) (a1 a2 : Nat → Nat) : gW G a1 a2 67 := rfl
theorem gW_68 (G : gG) (a1 a2 : Nat → Nat) : gW G a1 a2 68 := rfl
theorem gW_69 (G : gG) (a1 a2 : Nat → Nat) : gW G a1 a2 69 := rfl
theorem gW_70 (G : gG) (a1 a2 : Nat → Nat) : gW G a1 a2 70 := rfl
theorem gW_71 (G : gG) (a1 a2 : Nat → Nat) : gW G a1 a2 71 := rfl
theorem gW_72 (G : gG) (a1 a2 : Nat → Nat) : gW G a1 a2 72 := rfl
theorem gW_73 (G : gG) (a1 a2 : Nat → Nat) : gW G a1 a2 73 := rfl
theorem gW_74 (G : gG) (a1 a2 : Nat → Nat) : gW G a1 a2 74 := rfl
theorem gW_75 (G : gG) (a1 a2 : Nat → Nat) : gW G a1 a2 75 := rfl
theorem gW_76 (G : gG) (a1 a2 : Nat → Nat) : gW G a1 a2 76 := rfl
theorem gW_77 (G : gG) (a1 a2 : Nat → Nat) : gW G a1 a2 77 := rfl
theorem gW_78 (G : gG) (a1 a2 : Nat → Nat) : gW G a1 a2 78 := rfl
theorem gW_79 (G : gG) (a1 a2 : Nat → Nat) : gW G a1 a2 79 := rfl
theorem gW_80 (G : gG) (a1 a2 : Nat → Nat) : gW G a1 a2 80 := rfl
theorem gW_81 (G : gG) (a1 a2 : Nat → Nat) : gW G a1 a2 81 := rfl
theorem gW_82 (G : gG) (a1 a2 : Nat → Nat) : gW G a1 a2 82 := rfl
theorem gW_83 (G : gG) (a1 a2 : Nat → Nat) : gW G a1 a2 83 := rfl
theorem gW_84 (G : gG) (a1 a2 : Nat → Nat) : gW G a1 a2 84 := rfl
theorem gW_85 (G : gG) (a1 a2 : Nat → Nat) : gW G a1 a2 85 := rfl
theorem gW_86 (G : gG) (a1 a2 : Nat → Nat) : gW G a1 a2 86 := rfl
theorem gW_87 (G : gG) (a1 a2 : Nat → Nat) : gW G a1 a2 87 := rfl
theorem gW_88 (G : gG) (a1 a2 : Nat → Nat) : gW G a1 a2 88 := rfl
theorem gW_89 (G : gG) (a1 a2 : Nat → Nat) : gW G a1 a2 89 := rfl
theorem gW_90 (G : gG) (a1 a2 : Nat → Nat) : gW G a1 a2 90 := rfl
theorem gW_91 (G : gG) (a1 a2 : Nat → Nat) : gW G a1 a2 91 := rfl
theorem gW_92 (G : gG) (a1 a2 : Nat → Nat) : gW G a1 a2 92 := rfl
theorem gW_93 (G : gG) (a1 a2 : Nat → Nat) : gW G a1 a2 93 := rfl
theorem gW_94 (G : gG) (a1 a2 : Nat → Nat) : gW G a1 a2 94 := rfl
theorem gW_95 (G : gG) (a1 a2 : Nat → Nat) : gW G a1 a2 95 := rfl
theorem gW_96 (G : gG) (a1 a2 : Nat → Nat) : gW G a1 a2 96 := rfl
theorem gW_97 (G : gG) (a1 a2 : Nat → Nat) : gW G a1 a2 97 := rfl
theorem gW_98 (G : gG) (a1 a2 : Nat → Nat) : gW G a1 a2 98 := rfl
theorem gW_99 (G : gG) (a1 a2 : Nat → Nat) : gW G a1 a2 99 := rfl
theorem gW_100 (G : gG) (a1 a2 : Nat → Nat) : gW G a1 a2 100 := rfl
theorem gW_101 (G : gG) (a1 a2 : Nat → Nat) : gW G a1 a2 101 := rfl
theorem gWorld0 (G : gG) (a1 a2 : Nat → Nat) : ∀ k ∈ gIx, gW G a1 a2 k := show ∀ k ∈ [0, 1, 2, 3, 4, 5, 6, 7, 8, 10, 11, 12, 13, 14, 15, 16, 17, 18, 19, 20, 21, 22, 23, 24, 25, 26, 27, 28, 29, 30, 31, 32, 33, 34, 35, 36, 37, 38, 39, 40, 41, 42, 43, 44, 45, 46, 47, 48, 49, 50, 51, 52, 53, 54, 55, 56, 57, 58, 59, 60, 61, 62, 63, 64, 65, 66, 67, 68, 69, 70, 71, 72, 73, 74, 75, 76, 77, 78, 79, 80, 81, 82, 83, 84, 85, 86, 87, 88, 89, 90, 91, 92, 93, 94, 95, 96, 97, 98, 99, 100, 101], gW G a1 a2 k from List.forall_mem_cons.mpr ⟨gW_0 G a1 a2, List.forall_mem_cons.mpr ⟨gW_1 G a1 a2, List.forall_mem_cons.mpr ⟨gW_2 G a1 a2, List.forall_mem_cons.mpr ⟨gW_3 G a1 a2, List.forall_mem_cons.mpr ⟨gW_4 G a1 a2, List.forall_mem_cons.mpr ⟨gW_5 G a1 a2, List.forall_mem_cons.mpr ⟨gW_6 G a1 a2, List.forall_mem_cons.mpr ⟨gW_7 G a1 a2, List.forall_mem_cons.mpr ⟨gW_8 G a1 a2, List.forall_mem_cons.mpr ⟨gW_10 G a1 a2, List.forall_mem_cons.mpr ⟨gW_11 G a1 a2, List.forall_mem_cons.mpr ⟨gW_12 G a1 a2, List.forall_mem_cons.mpr ⟨gW_13 G a1 a2, List.forall_mem_cons.mpr ⟨gW_14 G a1 a2, List.forall_mem_cons.mpr ⟨gW_15 G a1 a2, List.forall_mem_cons.mpr ⟨gW_16 G a1 a2, List.forall_mem_cons.mpr ⟨gW_17 G a1 a2, List.forall_mem_cons.mpr ⟨gW_18 G a1 a2, List.forall_mem_cons.mpr ⟨gW_19 G a1 a2, List.forall_mem_cons.mpr ⟨gW_20 G a1 a2, List.forall_mem_cons.mpr ⟨gW_21 G a1 a2, List.forall_mem_cons.mpr ⟨gW_22 G a1 a2, List.forall_mem_cons.mpr ⟨gW_23 G a1 a2, List.forall_mem_cons.mpr ⟨gW_24 G a1 a2, List.forall_mem_cons.mpr ⟨gW_25 G a1 a2, List.forall_mem_cons.mpr ⟨gW_26 G a1 a2, List.forall_mem_cons.mpr ⟨gW_27 G a1 a2, List.forall_mem_cons.mpr ⟨gW_28 G a1 a2, List.forall_mem_cons.mpr ⟨gW_29 G a1 a2, List.forall_mem_cons.mpr ⟨gW_30 G a1 a2, List.forall_mem_cons.mpr ⟨gW_31 G a1 a2, List.forall_mem_cons.mpr ⟨gW_32 G a1 a2, List.forall_mem_cons.mpr ⟨gW_33 G a1 a2, List.forall_mem_cons.mpr ⟨gW_34 G a1 a2, List.forall_mem_cons.mpr ⟨gW_35 G a1 a2, List.forall_mem_cons.mpr ⟨gW_36 G a1 a2, List.forall_mem_cons.mpr ⟨gW_37 G a1 a2, List.forall_mem_cons.mpr ⟨gW_38 G a1 a2, List.forall_mem_cons.mpr ⟨gW_39 G a1 a2, List.forall_mem_cons.mpr ⟨gW_40 G a1 a2, List.forall_mem_cons.mpr ⟨gW_41 G a1 a2, List.forall_mem_cons.mpr ⟨gW_42 G a1 a2, List.forall_mem_cons.mpr ⟨gW_43 G a1 a2, List.forall_mem_cons.mpr ⟨gW_44 G a1 a2, List.forall_mem_cons.mpr ⟨gW_45 G a1 a2, List.forall_mem_cons.mpr ⟨gW_46 G a1 a2, List.forall_mem_cons.mpr ⟨gW_47 G a1 a2, List.forall_mem_cons.mpr ⟨gW_48 G a1 a2, List.forall_mem_cons.mpr ⟨gW_49 G a1 a2, List.forall_mem_cons.mpr ⟨gW_50 G a1 a2, List.forall_mem_cons.mpr ⟨gW_51 G a1 a2, List.forall_mem_cons.mpr ⟨gW_52 G a1 a2, List.forall_mem_cons.mpr ⟨gW_53 G a1 a2, List.forall_mem_cons.mpr ⟨gW_54 G a1 a2, List.forall_mem_cons.mpr ⟨gW_55 G a1 a2, List.forall_mem_cons.mpr ⟨gW_56 G a1 a2, List.forall_mem_cons.mpr ⟨gW_57 G a1 a2, List.forall_mem_cons.mpr ⟨gW_58 G a1 a2, List.forall_mem_cons.mpr ⟨gW_59 G a1 a2, List.forall_mem_cons.mpr ⟨gW_60 G a1 a2, List.forall_mem_cons.mpr ⟨gW_61 G a1 a2, List.forall_mem_cons.mpr ⟨gW_62 G a1 a2, List.forall_mem_cons.mpr ⟨gW_63 G a1 a2, List.forall_mem_cons.mpr ⟨gW_64 G a1 a2, List.forall_mem_cons.mpr ⟨gW_65 G a1 a2, List.forall_mem_cons.mpr ⟨gW_66 G a1 a2, List.forall_mem_cons.mpr ⟨gW_67 G a1 a2, List.forall_mem_cons.mpr ⟨gW_68 G a1 a2, List.forall_mem_cons.mpr ⟨gW_69 G a1 a2, List.forall_mem_cons.mpr ⟨gW_70 G a1 a2, List.forall_mem_cons.mpr ⟨gW_71 G a1 a2, List.forall_mem_cons.mpr ⟨gW_72 G a1 a2, List.forall_mem_cons.mpr ⟨gW_73 G a1 a2, List.forall_mem_cons.mpr ⟨gW_74 G a1 a2, List.forall_mem_cons.mpr ⟨gW_75 G a1 a2, List.forall_mem_cons.mpr ⟨gW_76 G a1 a2, List.forall_mem_cons.mpr ⟨gW_77 G a1 a2, List.forall_mem_cons.mpr ⟨gW_78 G a1 a2, List.forall_mem_cons.mpr ⟨gW_79 G a1 a2, List.forall_mem_cons.mpr ⟨gW_80 G a1 a2, List.forall_mem_cons.mpr ⟨gW_81 G a1 a2, List.forall_mem_cons.mpr ⟨gW_82 G a1 a2, List.forall_mem_cons.mpr ⟨gW_83 G a1 a2, List.forall_mem_cons.mpr ⟨gW_84 G a1 a2, List.forall_mem_cons.mpr ⟨gW_85 G a1 a2, List.forall_mem_cons.mpr ⟨gW_86 G a1 a2, List.forall_mem_cons.mpr ⟨gW_87 G a1 a2, List.forall_mem_cons.mpr ⟨gW_88 G a1 a2, List.forall_mem_cons.mpr ⟨gW_89 G a1 a2, List.forall_mem_cons.mpr ⟨gW_90 G a1 a2, List.forall_mem_cons.mpr ⟨gW_91 G a1 a2, List.forall_mem_cons.mpr ⟨gW_92 G a1 a2, List.forall_mem_cons.mpr ⟨gW_93 G a1 a2, List.forall_mem_cons.mpr ⟨gW_94 G a1 a2, List.forall_mem_cons.mpr ⟨gW_95 G a1 a2, List.forall_mem_cons.mpr ⟨gW_96 G a1 a2, List.forall_mem_cons.mpr ⟨gW_97 G a1 a2, List.forall_mem_cons.mpr ⟨gW_98 G a1 a2, List.forall_mem_cons.mpr ⟨gW_99 G a1 a2, List.forall_mem_cons.mpr ⟨gW_100 G a1 a2, List.forall_mem_cons.mpr ⟨gW_101 G a1 a2, fun _ h => (by cases h)⟩⟩⟩⟩⟩⟩⟩⟩⟩⟩⟩⟩⟩⟩⟩⟩⟩⟩⟩⟩⟩⟩⟩⟩⟩⟩⟩⟩⟩⟩⟩⟩⟩⟩⟩⟩⟩⟩⟩⟩⟩⟩⟩⟩⟩⟩⟩⟩⟩⟩⟩⟩⟩⟩⟩⟩⟩⟩⟩⟩⟩⟩⟩⟩⟩⟩⟩⟩⟩⟩⟩⟩⟩⟩⟩⟩⟩⟩⟩⟩⟩⟩⟩⟩⟩⟩⟩⟩⟩⟩⟩⟩⟩⟩⟩⟩⟩⟩⟩⟩⟩
theorem gIx_mem : ∀ k, k < 102 → k ≠ 9 → k ∈ gIx := by decide +kernel
theorem gWorld9 (G : gG) (a1 a2 : Nat → Nat) : (blkX9 G a1 ++ blkX10 G a2)[gPi 9]? = some (a1 26, .inl (G.2.2.1, 4, .inr (.inr (.inr (.inr (va_up (va_up (va_up (va_up (fun _ => none) (nI 0).toNatClampNeg (some (a1 27))) (nI 1).toNatClampNeg (some (a1 39))) (nI 2).toNatClampNeg (some (a1 51))) (nI 3).toNatClampNeg (some (a1 63)))))))) := rfl
theorem gWorldP {G : gG} {a1 a2 : Nat → Nat} {H : Heap} (h : va_P G.1 vwCl (blkX9 G a1 ++ blkX10 G a2) H) : va_P G.1 vwCl (gWs (gG1 G (fun k => gAt a1 a2 (gPi k))) gS0) H := by
  intro k q hk
  have hlt : k < 102 := by
    have := (List.getElem?_eq_some_iff.mp hk).1
    simpa [gWs] using this
  rw [gWsAt hlt] at hk
  cases hk
  by_cases e : k = 9
  · subst e
    have h9 := h _ _ (gWorld9 G a1 a2)
    exact h9
  · exact h _ _ (gWorld0 G a1 a2 k (gIx_mem k hlt e))
theorem gWorldA {G : gG} {a1 a2 : Nat → Nat} (hD : va_D (gA G) (blkX9 G a1 ++ blkX10 G a2)) : gAp (gG1 G (fun k => gAt a1 a2 (gPi k))) := by
  have h : ∀ k, k < 102 → ∃ e, (blkX9 G a1 ++ blkX10 G a2)[gPi k]? = some (gAt a1 a2 (gPi k), e) := fun k hk => by
    by_cases e : k = 9
    · subst e
      exact ⟨_, gWorld9 G a1 a2⟩
    · exact ⟨_, gWorld0 G a1 a2 k (gIx_mem k hk e)⟩
  refine ⟨fun i j hi hj hij => ?_, fun i hi => ?_⟩
  · obtain ⟨e1, h1⟩ := h i hi
    obtain ⟨e2, h2⟩ := h j hj
    exact gPi_inj i hi j hj (hD.1 _ _ _ _ h1 h2 hij)
  · obtain ⟨e1, h1⟩ := h i hi
    exact hD.2 _ _ h1
