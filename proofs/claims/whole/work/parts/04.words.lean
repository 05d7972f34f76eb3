theorem kr_1 : ∀ w ∈ wsL_law_r1, w ∈ wsL_law := fun _ h => List.mem_append_left _ (List.mem_append_left _ (List.mem_append_left _ (List.mem_append_left _ (List.mem_append_left _ (List.mem_append_left _ (List.mem_append_left _ (List.mem_append_left _ (List.mem_append_left _ h))))))))
theorem kr_2 : ∀ w ∈ wsL_law_r2, w ∈ wsL_law := fun _ h => List.mem_append_left _ (List.mem_append_left _ (List.mem_append_left _ (List.mem_append_left _ (List.mem_append_left _ (List.mem_append_left _ (List.mem_append_left _ (List.mem_append_left _ (List.mem_append_right _ (List.mem_append_left _ h)))))))))
theorem kr_3 : ∀ w ∈ wsL_law_r3, w ∈ wsL_law := fun _ h => List.mem_append_left _ (List.mem_append_left _ (List.mem_append_left _ (List.mem_append_left _ (List.mem_append_left _ (List.mem_append_left _ (List.mem_append_left _ (List.mem_append_left _ (List.mem_append_right _ (List.mem_append_right _ (List.mem_append_left _ h))))))))))
theorem kr_4 : ∀ w ∈ wsL_law_r4, w ∈ wsL_law := fun _ h => List.mem_append_left _ (List.mem_append_left _ (List.mem_append_left _ (List.mem_append_left _ (List.mem_append_left _ (List.mem_append_left _ (List.mem_append_left _ (List.mem_append_left _ (List.mem_append_right _ (List.mem_append_right _ (List.mem_append_right _ (List.mem_append_left _ h)))))))))))
theorem kr_5 : ∀ w ∈ wsL_law_r5, w ∈ wsL_law := fun _ h => List.mem_append_left _ (List.mem_append_left _ (List.mem_append_left _ (List.mem_append_left _ (List.mem_append_left _ (List.mem_append_left _ (List.mem_append_left _ (List.mem_append_left _ (List.mem_append_right _ (List.mem_append_right _ (List.mem_append_right _ (List.mem_append_right _ (List.mem_append_left _ h))))))))))))
theorem kr_6 : ∀ w ∈ wsL_law_r6, w ∈ wsL_law := fun _ h => List.mem_append_left _ (List.mem_append_left _ (List.mem_append_left _ (List.mem_append_left _ (List.mem_append_left _ (List.mem_append_left _ (List.mem_append_left _ (List.mem_append_left _ (List.mem_append_right _ (List.mem_append_right _ (List.mem_append_right _ (List.mem_append_right _ (List.mem_append_right _ (List.mem_append_left _ h)))))))))))))
theorem kr_7 : ∀ w ∈ wsL_law_r7, w ∈ wsL_law := fun _ h => List.mem_append_left _ (List.mem_append_left _ (List.mem_append_left _ (List.mem_append_left _ (List.mem_append_left _ (List.mem_append_left _ (List.mem_append_left _ (List.mem_append_left _ (List.mem_append_right _ (List.mem_append_right _ (List.mem_append_right _ (List.mem_append_right _ (List.mem_append_right _ (List.mem_append_right _ (List.mem_append_left _ h))))))))))))))
theorem kr_8 : ∀ w ∈ wsL_law_r8, w ∈ wsL_law := fun _ h => List.mem_append_left _ (List.mem_append_left _ (List.mem_append_left _ (List.mem_append_left _ (List.mem_append_left _ (List.mem_append_left _ (List.mem_append_left _ (List.mem_append_left _ (List.mem_append_right _ (List.mem_append_right _ (List.mem_append_right _ (List.mem_append_right _ (List.mem_append_right _ (List.mem_append_right _ (List.mem_append_right _ (List.mem_append_left _ h)))))))))))))))
theorem kr_9 : ∀ w ∈ wsL_law_r9, w ∈ wsL_law := fun _ h => List.mem_append_left _ (List.mem_append_left _ (List.mem_append_left _ (List.mem_append_left _ (List.mem_append_left _ (List.mem_append_left _ (List.mem_append_left _ (List.mem_append_left _ (List.mem_append_right _ (List.mem_append_right _ (List.mem_append_right _ (List.mem_append_right _ (List.mem_append_right _ (List.mem_append_right _ (List.mem_append_right _ (List.mem_append_right _ (List.mem_append_left _ h))))))))))))))))
theorem kr_10 : ∀ w ∈ wsL_law_r10, w ∈ wsL_law := fun _ h => List.mem_append_left _ (List.mem_append_left _ (List.mem_append_left _ (List.mem_append_left _ (List.mem_append_left _ (List.mem_append_left _ (List.mem_append_left _ (List.mem_append_left _ (List.mem_append_right _ (List.mem_append_right _ (List.mem_append_right _ (List.mem_append_right _ (List.mem_append_right _ (List.mem_append_right _ (List.mem_append_right _ (List.mem_append_right _ (List.mem_append_right _ (List.mem_append_left _ h)))))))))))))))))
theorem kr_11 : ∀ w ∈ wsL_law_r11, w ∈ wsL_law := fun _ h => List.mem_append_left _ (List.mem_append_left _ (List.mem_append_left _ (List.mem_append_left _ (List.mem_append_left _ (List.mem_append_left _ (List.mem_append_left _ (List.mem_append_left _ (List.mem_append_right _ (List.mem_append_right _ (List.mem_append_right _ (List.mem_append_right _ (List.mem_append_right _ (List.mem_append_right _ (List.mem_append_right _ (List.mem_append_right _ (List.mem_append_right _ (List.mem_append_right _ (List.mem_append_left _ h))))))))))))))))))
theorem kr_12 : ∀ w ∈ wsL_law_r12, w ∈ wsL_law := fun _ h => List.mem_append_left _ (List.mem_append_left _ (List.mem_append_left _ (List.mem_append_left _ (List.mem_append_left _ (List.mem_append_left _ (List.mem_append_left _ (List.mem_append_left _ (List.mem_append_right _ (List.mem_append_right _ (List.mem_append_right _ (List.mem_append_right _ (List.mem_append_right _ (List.mem_append_right _ (List.mem_append_right _ (List.mem_append_right _ (List.mem_append_right _ (List.mem_append_right _ (List.mem_append_right _ (List.mem_append_left _ h)))))))))))))))))))
theorem kr_13 : ∀ w ∈ wsL_law_r13, w ∈ wsL_law := fun _ h => List.mem_append_left _ (List.mem_append_left _ (List.mem_append_left _ (List.mem_append_left _ (List.mem_append_left _ (List.mem_append_left _ (List.mem_append_left _ (List.mem_append_left _ (List.mem_append_right _ (List.mem_append_right _ (List.mem_append_right _ (List.mem_append_right _ (List.mem_append_right _ (List.mem_append_right _ (List.mem_append_right _ (List.mem_append_right _ (List.mem_append_right _ (List.mem_append_right _ (List.mem_append_right _ (List.mem_append_right _ (List.mem_append_left _ h))))))))))))))))))))
theorem kr_14 : ∀ w ∈ wsL_law_r14, w ∈ wsL_law := fun _ h => List.mem_append_left _ (List.mem_append_left _ (List.mem_append_left _ (List.mem_append_left _ (List.mem_append_left _ (List.mem_append_left _ (List.mem_append_left _ (List.mem_append_left _ (List.mem_append_right _ (List.mem_append_right _ (List.mem_append_right _ (List.mem_append_right _ (List.mem_append_right _ (List.mem_append_right _ (List.mem_append_right _ (List.mem_append_right _ (List.mem_append_right _ (List.mem_append_right _ (List.mem_append_right _ (List.mem_append_right _ (List.mem_append_right _ (List.mem_append_left _ h)))))))))))))))))))))
theorem kr_15 : ∀ w ∈ wsL_law_r15, w ∈ wsL_law := fun _ h => List.mem_append_left _ (List.mem_append_left _ (List.mem_append_left _ (List.mem_append_left _ (List.mem_append_left _ (List.mem_append_left _ (List.mem_append_left _ (List.mem_append_left _ (List.mem_append_right _ (List.mem_append_right _ (List.mem_append_right _ (List.mem_append_right _ (List.mem_append_right _ (List.mem_append_right _ (List.mem_append_right _ (List.mem_append_right _ (List.mem_append_right _ (List.mem_append_right _ (List.mem_append_right _ (List.mem_append_right _ (List.mem_append_right _ (List.mem_append_right _ (List.mem_append_left _ h))))))))))))))))))))))
theorem kr_16 : ∀ w ∈ wsL_law_r16, w ∈ wsL_law := fun _ h => List.mem_append_left _ (List.mem_append_left _ (List.mem_append_left _ (List.mem_append_left _ (List.mem_append_left _ (List.mem_append_left _ (List.mem_append_left _ (List.mem_append_left _ (List.mem_append_right _ (List.mem_append_right _ (List.mem_append_right _ (List.mem_append_right _ (List.mem_append_right _ (List.mem_append_right _ (List.mem_append_right _ (List.mem_append_right _ (List.mem_append_right _ (List.mem_append_right _ (List.mem_append_right _ (List.mem_append_right _ (List.mem_append_right _ (List.mem_append_right _ (List.mem_append_right _ (List.mem_append_left _ h)))))))))))))))))))))))
theorem kr_17 : ∀ w ∈ wsL_law_r17, w ∈ wsL_law := fun _ h => List.mem_append_left _ (List.mem_append_left _ (List.mem_append_left _ (List.mem_append_left _ (List.mem_append_left _ (List.mem_append_left _ (List.mem_append_left _ (List.mem_append_left _ (List.mem_append_right _ (List.mem_append_right _ (List.mem_append_right _ (List.mem_append_right _ (List.mem_append_right _ (List.mem_append_right _ (List.mem_append_right _ (List.mem_append_right _ (List.mem_append_right _ (List.mem_append_right _ (List.mem_append_right _ (List.mem_append_right _ (List.mem_append_right _ (List.mem_append_right _ (List.mem_append_right _ (List.mem_append_right _ (List.mem_append_left _ h))))))))))))))))))))))))
theorem kr_18 : ∀ w ∈ wsL_law_r18, w ∈ wsL_law := fun _ h => List.mem_append_left _ (List.mem_append_left _ (List.mem_append_left _ (List.mem_append_left _ (List.mem_append_left _ (List.mem_append_left _ (List.mem_append_left _ (List.mem_append_left _ (List.mem_append_right _ (List.mem_append_right _ (List.mem_append_right _ (List.mem_append_right _ (List.mem_append_right _ (List.mem_append_right _ (List.mem_append_right _ (List.mem_append_right _ (List.mem_append_right _ (List.mem_append_right _ (List.mem_append_right _ (List.mem_append_right _ (List.mem_append_right _ (List.mem_append_right _ (List.mem_append_right _ (List.mem_append_right _ (List.mem_append_right _ (List.mem_append_left _ h)))))))))))))))))))))))))
theorem kr_19 : ∀ w ∈ wsL_law_r19, w ∈ wsL_law := fun _ h => List.mem_append_left _ (List.mem_append_left _ (List.mem_append_left _ (List.mem_append_left _ (List.mem_append_left _ (List.mem_append_left _ (List.mem_append_left _ (List.mem_append_left _ (List.mem_append_right _ (List.mem_append_right _ (List.mem_append_right _ (List.mem_append_right _ (List.mem_append_right _ (List.mem_append_right _ (List.mem_append_right _ (List.mem_append_right _ (List.mem_append_right _ (List.mem_append_right _ (List.mem_append_right _ (List.mem_append_right _ (List.mem_append_right _ (List.mem_append_right _ (List.mem_append_right _ (List.mem_append_right _ (List.mem_append_right _ (List.mem_append_right _ (List.mem_append_left _ h))))))))))))))))))))))))))
theorem kr_20 : ∀ w ∈ wsL_law_r20, w ∈ wsL_law := fun _ h => List.mem_append_left _ (List.mem_append_left _ (List.mem_append_left _ (List.mem_append_left _ (List.mem_append_left _ (List.mem_append_left _ (List.mem_append_left _ (List.mem_append_left _ (List.mem_append_right _ (List.mem_append_right _ (List.mem_append_right _ (List.mem_append_right _ (List.mem_append_right _ (List.mem_append_right _ (List.mem_append_right _ (List.mem_append_right _ (List.mem_append_right _ (List.mem_append_right _ (List.mem_append_right _ (List.mem_append_right _ (List.mem_append_right _ (List.mem_append_right _ (List.mem_append_right _ (List.mem_append_right _ (List.mem_append_right _ (List.mem_append_right _ (List.mem_append_right _ (List.mem_append_left _ h)))))))))))))))))))))))))))
theorem kr_21 : ∀ w ∈ wsL_law_r21, w ∈ wsL_law := fun _ h => List.mem_append_left _ (List.mem_append_left _ (List.mem_append_left _ (List.mem_append_left _ (List.mem_append_left _ (List.mem_append_left _ (List.mem_append_left _ (List.mem_append_left _ (List.mem_append_right _ (List.mem_append_right _ (List.mem_append_right _ (List.mem_append_right _ (List.mem_append_right _ (List.mem_append_right _ (List.mem_append_right _ (List.mem_append_right _ (List.mem_append_right _ (List.mem_append_right _ (List.mem_append_right _ (List.mem_append_right _ (List.mem_append_right _ (List.mem_append_right _ (List.mem_append_right _ (List.mem_append_right _ (List.mem_append_right _ (List.mem_append_right _ (List.mem_append_right _ (List.mem_append_right _ (List.mem_append_left _ h))))))))))))))))))))))))))))
theorem kr_22 : ∀ w ∈ wsL_law_r22, w ∈ wsL_law := fun _ h => List.mem_append_left _ (List.mem_append_left _ (List.mem_append_left _ (List.mem_append_left _ (List.mem_append_left _ (List.mem_append_left _ (List.mem_append_left _ (List.mem_append_left _ (List.mem_append_right _ (List.mem_append_right _ (List.mem_append_right _ (List.mem_append_right _ (List.mem_append_right _ (List.mem_append_right _ (List.mem_append_right _ (List.mem_append_right _ (List.mem_append_right _ (List.mem_append_right _ (List.mem_append_right _ (List.mem_append_right _ (List.mem_append_right _ (List.mem_append_right _ (List.mem_append_right _ (List.mem_append_right _ (List.mem_append_right _ (List.mem_append_right _ (List.mem_append_right _ (List.mem_append_right _ (List.mem_append_right _ (List.mem_append_left _ h)))))))))))))))))))))))))))))
theorem kr_23 : ∀ w ∈ wsL_law_r23, w ∈ wsL_law := fun _ h => List.mem_append_left _ (List.mem_append_left _ (List.mem_append_left _ (List.mem_append_left _ (List.mem_append_left _ (List.mem_append_left _ (List.mem_append_left _ (List.mem_append_left _ (List.mem_append_right _ (List.mem_append_right _ (List.mem_append_right _ (List.mem_append_right _ (List.mem_append_right _ (List.mem_append_right _ (List.mem_append_right _ (List.mem_append_right _ (List.mem_append_right _ (List.mem_append_right _ (List.mem_append_right _ (List.mem_append_right _ (List.mem_append_right _ (List.mem_append_right _ (List.mem_append_right _ (List.mem_append_right _ (List.mem_append_right _ (List.mem_append_right _ (List.mem_append_right _ (List.mem_append_right _ (List.mem_append_right _ (List.mem_append_right _ (List.mem_append_left _ h))))))))))))))))))))))))))))))
theorem kr_24 : ∀ w ∈ wsL_law_r24, w ∈ wsL_law := fun _ h => List.mem_append_left _ (List.mem_append_left _ (List.mem_append_left _ (List.mem_append_left _ (List.mem_append_left _ (List.mem_append_left _ (List.mem_append_left _ (List.mem_append_left _ (List.mem_append_right _ (List.mem_append_right _ (List.mem_append_right _ (List.mem_append_right _ (List.mem_append_right _ (List.mem_append_right _ (List.mem_append_right _ (List.mem_append_right _ (List.mem_append_right _ (List.mem_append_right _ (List.mem_append_right _ (List.mem_append_right _ (List.mem_append_right _ (List.mem_append_right _ (List.mem_append_right _ (List.mem_append_right _ (List.mem_append_right _ (List.mem_append_right _ (List.mem_append_right _ (List.mem_append_right _ (List.mem_append_right _ (List.mem_append_right _ (List.mem_append_right _ (List.mem_append_left _ h)))))))))))))))))))))))))))))))
theorem kr_25 : ∀ w ∈ wsL_law_r25, w ∈ wsL_law := fun _ h => List.mem_append_left _ (List.mem_append_left _ (List.mem_append_left _ (List.mem_append_left _ (List.mem_append_left _ (List.mem_append_left _ (List.mem_append_left _ (List.mem_append_left _ (List.mem_append_right _ (List.mem_append_right _ (List.mem_append_right _ (List.mem_append_right _ (List.mem_append_right _ (List.mem_append_right _ (List.mem_append_right _ (List.mem_append_right _ (List.mem_append_right _ (List.mem_append_right _ (List.mem_append_right _ (List.mem_append_right _ (List.mem_append_right _ (List.mem_append_right _ (List.mem_append_right _ (List.mem_append_right _ (List.mem_append_right _ (List.mem_append_right _ (List.mem_append_right _ (List.mem_append_right _ (List.mem_append_right _ (List.mem_append_right _ (List.mem_append_right _ (List.mem_append_right _ (List.mem_append_left _ h))))))))))))))))))))))))))))))))
theorem kr_26 : ∀ w ∈ wsL_law_r26, w ∈ wsL_law := fun _ h => List.mem_append_left _ (List.mem_append_left _ (List.mem_append_left _ (List.mem_append_left _ (List.mem_append_left _ (List.mem_append_left _ (List.mem_append_left _ (List.mem_append_left _ (List.mem_append_right _ (List.mem_append_right _ (List.mem_append_right _ (List.mem_append_right _ (List.mem_append_right _ (List.mem_append_right _ (List.mem_append_right _ (List.mem_append_right _ (List.mem_append_right _ (List.mem_append_right _ (List.mem_append_right _ (List.mem_append_right _ (List.mem_append_right _ (List.mem_append_right _ (List.mem_append_right _ (List.mem_append_right _ (List.mem_append_right _ (List.mem_append_right _ (List.mem_append_right _ (List.mem_append_right _ (List.mem_append_right _ (List.mem_append_right _ (List.mem_append_right _ (List.mem_append_right _ (List.mem_append_right _ (List.mem_append_left _ h)))))))))))))))))))))))))))))))))
theorem kr_27 : ∀ w ∈ wsL_law_r27, w ∈ wsL_law := fun _ h => List.mem_append_left _ (List.mem_append_left _ (List.mem_append_left _ (List.mem_append_left _ (List.mem_append_left _ (List.mem_append_left _ (List.mem_append_left _ (List.mem_append_left _ (List.mem_append_right _ (List.mem_append_right _ (List.mem_append_right _ (List.mem_append_right _ (List.mem_append_right _ (List.mem_append_right _ (List.mem_append_right _ (List.mem_append_right _ (List.mem_append_right _ (List.mem_append_right _ (List.mem_append_right _ (List.mem_append_right _ (List.mem_append_right _ (List.mem_append_right _ (List.mem_append_right _ (List.mem_append_right _ (List.mem_append_right _ (List.mem_append_right _ (List.mem_append_right _ (List.mem_append_right _ (List.mem_append_right _ (List.mem_append_right _ (List.mem_append_right _ (List.mem_append_right _ (List.mem_append_right _ (List.mem_append_right _ (List.mem_append_left _ h))))))))))))))))))))))))))))))))))
theorem kr_28 : ∀ w ∈ wsL_law_r28, w ∈ wsL_law := fun _ h => List.mem_append_left _ (List.mem_append_left _ (List.mem_append_left _ (List.mem_append_left _ (List.mem_append_left _ (List.mem_append_left _ (List.mem_append_left _ (List.mem_append_left _ (List.mem_append_right _ (List.mem_append_right _ (List.mem_append_right _ (List.mem_append_right _ (List.mem_append_right _ (List.mem_append_right _ (List.mem_append_right _ (List.mem_append_right _ (List.mem_append_right _ (List.mem_append_right _ (List.mem_append_right _ (List.mem_append_right _ (List.mem_append_right _ (List.mem_append_right _ (List.mem_append_right _ (List.mem_append_right _ (List.mem_append_right _ (List.mem_append_right _ (List.mem_append_right _ (List.mem_append_right _ (List.mem_append_right _ (List.mem_append_right _ (List.mem_append_right _ (List.mem_append_right _ (List.mem_append_right _ (List.mem_append_right _ (List.mem_append_right _ (List.mem_append_left _ h)))))))))))))))))))))))))))))))))))
theorem kr_29 : ∀ w ∈ wsL_law_r29, w ∈ wsL_law := fun _ h => List.mem_append_left _ (List.mem_append_left _ (List.mem_append_left _ (List.mem_append_left _ (List.mem_append_left _ (List.mem_append_left _ (List.mem_append_left _ (List.mem_append_left _ (List.mem_append_right _ (List.mem_append_right _ (List.mem_append_right _ (List.mem_append_right _ (List.mem_append_right _ (List.mem_append_right _ (List.mem_append_right _ (List.mem_append_right _ (List.mem_append_right _ (List.mem_append_right _ (List.mem_append_right _ (List.mem_append_right _ (List.mem_append_right _ (List.mem_append_right _ (List.mem_append_right _ (List.mem_append_right _ (List.mem_append_right _ (List.mem_append_right _ (List.mem_append_right _ (List.mem_append_right _ (List.mem_append_right _ (List.mem_append_right _ (List.mem_append_right _ (List.mem_append_right _ (List.mem_append_right _ (List.mem_append_right _ (List.mem_append_right _ (List.mem_append_right _ (List.mem_append_left _ h))))))))))))))))))))))))))))))))))))
theorem kr_30 : ∀ w ∈ wsL_law_r30, w ∈ wsL_law := fun _ h => List.mem_append_left _ (List.mem_append_left _ (List.mem_append_left _ (List.mem_append_left _ (List.mem_append_left _ (List.mem_append_left _ (List.mem_append_left _ (List.mem_append_left _ (List.mem_append_right _ (List.mem_append_right _ (List.mem_append_right _ (List.mem_append_right _ (List.mem_append_right _ (List.mem_append_right _ (List.mem_append_right _ (List.mem_append_right _ (List.mem_append_right _ (List.mem_append_right _ (List.mem_append_right _ (List.mem_append_right _ (List.mem_append_right _ (List.mem_append_right _ (List.mem_append_right _ (List.mem_append_right _ (List.mem_append_right _ (List.mem_append_right _ (List.mem_append_right _ (List.mem_append_right _ (List.mem_append_right _ (List.mem_append_right _ (List.mem_append_right _ (List.mem_append_right _ (List.mem_append_right _ (List.mem_append_right _ (List.mem_append_right _ (List.mem_append_right _ (List.mem_append_right _ (List.mem_append_left _ h)))))))))))))))))))))))))))))))))))))
theorem kr_31 : ∀ w ∈ wsL_law_r31, w ∈ wsL_law := fun _ h => List.mem_append_left _ (List.mem_append_left _ (List.mem_append_left _ (List.mem_append_left _ (List.mem_append_left _ (List.mem_append_left _ (List.mem_append_left _ (List.mem_append_left _ (List.mem_append_right _ (List.mem_append_right _ (List.mem_append_right _ (List.mem_append_right _ (List.mem_append_right _ (List.mem_append_right _ (List.mem_append_right _ (List.mem_append_right _ (List.mem_append_right _ (List.mem_append_right _ (List.mem_append_right _ (List.mem_append_right _ (List.mem_append_right _ (List.mem_append_right _ (List.mem_append_right _ (List.mem_append_right _ (List.mem_append_right _ (List.mem_append_right _ (List.mem_append_right _ (List.mem_append_right _ (List.mem_append_right _ (List.mem_append_right _ (List.mem_append_right _ (List.mem_append_right _ (List.mem_append_right _ (List.mem_append_right _ (List.mem_append_right _ (List.mem_append_right _ (List.mem_append_right _ (List.mem_append_right _ (h))))))))))))))))))))))))))))))))))))))
theorem kl_RL_7 : Cond.classLink RL 7 RX5 ∈ wsL_law := kr_1 _ (List.mem_of_getElem? (i := 0) rfl)
theorem kI_RX5 : Cond.instantiable RX5 6 ∈ wsL_law := kr_1 _ (List.mem_of_getElem? (i := 1) rfl)
theorem kn_RX5 : Cond.initialized RX5 ∈ wsL_law := kr_1 _ (List.mem_of_getElem? (i := 2) rfl)
theorem kl_RL_10 : Cond.classLink RL 10 RX6 ∈ wsL_law := kr_1 _ (List.mem_of_getElem? (i := 3) rfl)
theorem kI_RX6 : Cond.instantiable RX6 20 ∈ wsL_law := kr_1 _ (List.mem_of_getElem? (i := 4) rfl)
theorem kn_RX6 : Cond.initialized RX6 ∈ wsL_law := kr_1 _ (List.mem_of_getElem? (i := 5) rfl)
theorem km_RL_9 : Cond.methodLink RL 9 yX5_init ∈ wsL_law := kr_1 _ (List.mem_of_getElem? (i := 6) rfl)
theorem ki_yX5_init : Cond.instanceMethod yX5_init ∈ wsL_law := kr_1 _ (List.mem_of_getElem? (i := 7) rfl)
theorem kc_yX5_init : Cond.code yX5_init cX5_init 3 none ∈ wsL_law := kr_1 _ (List.mem_of_getElem? (i := 8) rfl)
theorem km_RX5_3 : Cond.methodLink RX5 3 objectInit ∈ wsL_law := kr_1 _ (List.mem_of_getElem? (i := 9) rfl)
theorem ki_objectInit : Cond.instanceMethod objectInit ∈ wsL_law := kr_1 _ (List.mem_of_getElem? (i := 10) rfl)
theorem kc_objectInit : Cond.code objectInit ⟨#[0xb1]⟩ 1 none ∈ wsL_law := kr_1 _ (List.mem_of_getElem? (i := 11) rfl)
theorem kl_RX5_9 : Cond.classLink RX5 9 RX3 ∈ wsL_law := kr_1 _ (List.mem_of_getElem? (i := 12) rfl)
theorem kI_RX3 : Cond.instantiable RX3 3 ∈ wsL_law := kr_1 _ (List.mem_of_getElem? (i := 13) rfl)
theorem kn_RX3 : Cond.initialized RX3 ∈ wsL_law := kr_1 _ (List.mem_of_getElem? (i := 14) rfl)
theorem kf_RX5_12 : Cond.fieldLink RX5 12 "OreBlocks" "history" "LOreBlocks$History;" ∈ wsL_law := kr_1 _ (List.mem_of_getElem? (i := 15) rfl)
theorem kl_RX5_16 : Cond.classLink RX5 16 RX0 ∈ wsL_law := kr_1 _ (List.mem_of_getElem? (i := 16) rfl)
theorem kI_RX0 : Cond.instantiable RX0 4 ∈ wsL_law := kr_1 _ (List.mem_of_getElem? (i := 17) rfl)
theorem kn_RX0 : Cond.initialized RX0 ∈ wsL_law := kr_1 _ (List.mem_of_getElem? (i := 18) rfl)
theorem kf_RX5_19 : Cond.fieldLink RX5 19 "OreBlocks" "book" "LOreBlocks$Book;" ∈ wsL_law := kr_1 _ (List.mem_of_getElem? (i := 19) rfl)
theorem kl_RX5_23 : Cond.classLink RX5 23 RX4 ∈ wsL_law := kr_1 _ (List.mem_of_getElem? (i := 20) rfl)
theorem kf_RX5_25 : Cond.fieldLink RX5 25 "OreBlocks" "images" "[LOreBlocks$Image;" ∈ wsL_law := kr_1 _ (List.mem_of_getElem? (i := 21) rfl)
theorem kl_RX5_29 : Cond.classLink RX5 29 RX2 ∈ wsL_law := kr_1 _ (List.mem_of_getElem? (i := 22) rfl)
theorem kI_RX2 : Cond.instantiable RX2 13 ∈ wsL_law := kr_1 _ (List.mem_of_getElem? (i := 23) rfl)
theorem kn_RX2 : Cond.initialized RX2 ∈ wsL_law := kr_2 _ (List.mem_of_getElem? (i := 0) rfl)
theorem kf_RX5_32 : Cond.fieldLink RX5 32 "OreBlocks" "ground" "LOreBlocks$Ground;" ∈ wsL_law := kr_2 _ (List.mem_of_getElem? (i := 1) rfl)
theorem kl_RX5_36 : Cond.classLink RX5 36 RX1 ∈ wsL_law := kr_2 _ (List.mem_of_getElem? (i := 2) rfl)
theorem kI_RX1 : Cond.instantiable RX1 14 ∈ wsL_law := kr_2 _ (List.mem_of_getElem? (i := 3) rfl)
theorem kn_RX1 : Cond.initialized RX1 ∈ wsL_law := kr_2 _ (List.mem_of_getElem? (i := 4) rfl)
theorem kf_RX5_41 : Cond.fieldLink RX5 41 "OreBlocks" "estimate" "LOreBlocks$Estimate;" ∈ wsL_law := kr_2 _ (List.mem_of_getElem? (i := 5) rfl)
theorem kI_RX4 : Cond.instantiable RX4 3 ∈ wsL_law := kr_2 _ (List.mem_of_getElem? (i := 6) rfl)
theorem kn_RX4 : Cond.initialized RX4 ∈ wsL_law := kr_2 _ (List.mem_of_getElem? (i := 7) rfl)
theorem km_RX5_11 : Cond.methodLink RX5 11 yX3_init ∈ wsL_law := kr_2 _ (List.mem_of_getElem? (i := 8) rfl)
theorem ki_yX3_init : Cond.instanceMethod yX3_init ∈ wsL_law := kr_2 _ (List.mem_of_getElem? (i := 9) rfl)
theorem kc_yX3_init : Cond.code yX3_init cX3_init 2 none ∈ wsL_law := kr_2 _ (List.mem_of_getElem? (i := 10) rfl)
theorem km_RX3_3 : Cond.methodLink RX3 3 objectInit ∈ wsL_law := kr_2 _ (List.mem_of_getElem? (i := 11) rfl)
theorem kl_RX3_9 : Cond.classLink RX3 9 RX2 ∈ wsL_law := kr_2 _ (List.mem_of_getElem? (i := 12) rfl)
theorem kf_RX3_11 : Cond.fieldLink RX3 11 "OreBlocks$History" "ahead" "[LOreBlocks$Ground;" ∈ wsL_law := kr_2 _ (List.mem_of_getElem? (i := 13) rfl)
theorem ki_yX2_init : Cond.instanceMethod yX2_init ∈ wsL_law := kr_2 _ (List.mem_of_getElem? (i := 14) rfl)
theorem kc_yX2_init : Cond.code yX2_init cX2_init 1 none ∈ wsL_law := kr_2 _ (List.mem_of_getElem? (i := 15) rfl)
theorem km_RX2_3 : Cond.methodLink RX2 3 objectInit ∈ wsL_law := kr_2 _ (List.mem_of_getElem? (i := 16) rfl)
theorem kz_arrayClass__int : Cond.arrayClass .int ∈ wsL_law := kr_2 _ (List.mem_of_getElem? (i := 17) rfl)
theorem kf_RX2_9 : Cond.fieldLink RX2 9 "OreBlocks$Ground" "xs" "[I" ∈ wsL_law := kr_2 _ (List.mem_of_getElem? (i := 18) rfl)
theorem kf_RX2_15 : Cond.fieldLink RX2 15 "OreBlocks$Ground" "ys" "[I" ∈ wsL_law := kr_2 _ (List.mem_of_getElem? (i := 19) rfl)
theorem kf_RX2_18 : Cond.fieldLink RX2 18 "OreBlocks$Ground" "grades" "[I" ∈ wsL_law := kr_2 _ (List.mem_of_getElem? (i := 20) rfl)
theorem kf_RX2_21 : Cond.fieldLink RX2 21 "OreBlocks$Ground" "nugget" "I" ∈ wsL_law := kr_2 _ (List.mem_of_getElem? (i := 21) rfl)
theorem kf_RX2_25 : Cond.fieldLink RX2 25 "OreBlocks$Ground" "steep" "I" ∈ wsL_law := kr_2 _ (List.mem_of_getElem? (i := 22) rfl)
theorem kf_RX2_28 : Cond.fieldLink RX2 28 "OreBlocks$Ground" "knot" "I" ∈ wsL_law := kr_2 _ (List.mem_of_getElem? (i := 23) rfl)
theorem kf_RX2_31 : Cond.fieldLink RX2 31 "OreBlocks$Ground" "flat" "I" ∈ wsL_law := kr_3 _ (List.mem_of_getElem? (i := 0) rfl)
theorem kf_RX2_34 : Cond.fieldLink RX2 34 "OreBlocks$Ground" "range" "I" ∈ wsL_law := kr_3 _ (List.mem_of_getElem? (i := 1) rfl)
theorem kf_RX2_37 : Cond.fieldLink RX2 37 "OreBlocks$Ground" "most" "I" ∈ wsL_law := kr_3 _ (List.mem_of_getElem? (i := 2) rfl)
theorem kf_RX2_40 : Cond.fieldLink RX2 40 "OreBlocks$Ground" "inQuarter" "I" ∈ wsL_law := kr_3 _ (List.mem_of_getElem? (i := 3) rfl)
theorem kf_RX2_43 : Cond.fieldLink RX2 43 "OreBlocks$Ground" "reach" "I" ∈ wsL_law := kr_3 _ (List.mem_of_getElem? (i := 4) rfl)
theorem ki_yX0_init : Cond.instanceMethod yX0_init ∈ wsL_law := kr_3 _ (List.mem_of_getElem? (i := 5) rfl)
theorem kc_yX0_init : Cond.code yX0_init cX0_init 1 none ∈ wsL_law := kr_3 _ (List.mem_of_getElem? (i := 6) rfl)
theorem km_RX0_3 : Cond.methodLink RX0 3 objectInit ∈ wsL_law := kr_3 _ (List.mem_of_getElem? (i := 7) rfl)
theorem kf_RX0_9 : Cond.fieldLink RX0 9 "OreBlocks$Book" "xs" "[I" ∈ wsL_law := kr_3 _ (List.mem_of_getElem? (i := 8) rfl)
theorem kf_RX0_15 : Cond.fieldLink RX0 15 "OreBlocks$Book" "ys" "[I" ∈ wsL_law := kr_3 _ (List.mem_of_getElem? (i := 9) rfl)
theorem kf_RX0_18 : Cond.fieldLink RX0 18 "OreBlocks$Book" "values" "[I" ∈ wsL_law := kr_3 _ (List.mem_of_getElem? (i := 10) rfl)
theorem km_RX5_38 : Cond.methodLink RX5 38 yX1_init ∈ wsL_law := kr_3 _ (List.mem_of_getElem? (i := 11) rfl)
theorem ki_yX1_init : Cond.instanceMethod yX1_init ∈ wsL_law := kr_3 _ (List.mem_of_getElem? (i := 12) rfl)
theorem kc_yX1_init : Cond.code yX1_init cX1_init 2 none ∈ wsL_law := kr_3 _ (List.mem_of_getElem? (i := 13) rfl)
theorem km_RX1_3 : Cond.methodLink RX1 3 objectInit ∈ wsL_law := kr_3 _ (List.mem_of_getElem? (i := 14) rfl)
theorem kf_RX1_9 : Cond.fieldLink RX1 9 "OreBlocks$Estimate" "looked" "[I" ∈ wsL_law := kr_3 _ (List.mem_of_getElem? (i := 15) rfl)
theorem kz_arrayClass__long : Cond.arrayClass .long ∈ wsL_law := kr_3 _ (List.mem_of_getElem? (i := 16) rfl)
theorem kf_RX1_15 : Cond.fieldLink RX1 15 "OreBlocks$Estimate" "parts" "[J" ∈ wsL_law := kr_3 _ (List.mem_of_getElem? (i := 17) rfl)
theorem kf_RX1_19 : Cond.fieldLink RX1 19 "OreBlocks$Estimate" "fars" "[I" ∈ wsL_law := kr_3 _ (List.mem_of_getElem? (i := 18) rfl)
theorem kf_RX1_22 : Cond.fieldLink RX1 22 "OreBlocks$Estimate" "takenInQuarter" "[I" ∈ wsL_law := kr_3 _ (List.mem_of_getElem? (i := 19) rfl)
theorem kf_RX1_25 : Cond.fieldLink RX1 25 "OreBlocks$Estimate" "between" "[I" ∈ wsL_law := kr_3 _ (List.mem_of_getElem? (i := 20) rfl)
theorem kf_RX1_28 : Cond.fieldLink RX1 28 "OreBlocks$Estimate" "toPlaces" "[I" ∈ wsL_law := kr_3 _ (List.mem_of_getElem? (i := 21) rfl)
theorem kf_RX1_31 : Cond.fieldLink RX1 31 "OreBlocks$Estimate" "table" "[J" ∈ wsL_law := kr_3 _ (List.mem_of_getElem? (i := 22) rfl)
theorem kf_RX1_34 : Cond.fieldLink RX1 34 "OreBlocks$Estimate" "wanted" "[J" ∈ wsL_law := kr_3 _ (List.mem_of_getElem? (i := 23) rfl)
theorem kf_RX1_37 : Cond.fieldLink RX1 37 "OreBlocks$Estimate" "ground" "LOreBlocks$Ground;" ∈ wsL_law := kr_4 _ (List.mem_of_getElem? (i := 0) rfl)
theorem ki_yX4_init : Cond.instanceMethod yX4_init ∈ wsL_law := kr_4 _ (List.mem_of_getElem? (i := 1) rfl)
theorem kc_yX4_init : Cond.code yX4_init cX4_init 1 none ∈ wsL_law := kr_4 _ (List.mem_of_getElem? (i := 2) rfl)
theorem km_RX4_1 : Cond.methodLink RX4 1 objectInit ∈ wsL_law := kr_4 _ (List.mem_of_getElem? (i := 3) rfl)
theorem kl_RX4_7 : Cond.classLink RX4 7 RX2 ∈ wsL_law := kr_4 _ (List.mem_of_getElem? (i := 4) rfl)
theorem kf_RX4_10 : Cond.fieldLink RX4 10 "OreBlocks$Image" "ground" "LOreBlocks$Ground;" ∈ wsL_law := kr_4 _ (List.mem_of_getElem? (i := 5) rfl)
theorem km_RL_12 : Cond.methodLink RL 12 yX6_init ∈ wsL_law := kr_4 _ (List.mem_of_getElem? (i := 6) rfl)
theorem ki_yX6_init : Cond.instanceMethod yX6_init ∈ wsL_law := kr_4 _ (List.mem_of_getElem? (i := 7) rfl)
theorem kc_yX6_init : Cond.code yX6_init cX6_init 1 none ∈ wsL_law := kr_4 _ (List.mem_of_getElem? (i := 8) rfl)
theorem km_RX6_1 : Cond.methodLink RX6 1 objectInit ∈ wsL_law := kr_4 _ (List.mem_of_getElem? (i := 9) rfl)
theorem kf_RX6_7 : Cond.fieldLink RX6 7 "OreBlocksModel" "w" "[I" ∈ wsL_law := kr_4 _ (List.mem_of_getElem? (i := 10) rfl)
theorem kf_RX6_13 : Cond.fieldLink RX6 13 "OreBlocksModel" "keptSeed" "[I" ∈ wsL_law := kr_4 _ (List.mem_of_getElem? (i := 11) rfl)
theorem kf_RX6_16 : Cond.fieldLink RX6 16 "OreBlocksModel" "bookX" "[I" ∈ wsL_law := kr_4 _ (List.mem_of_getElem? (i := 12) rfl)
theorem kf_RX6_19 : Cond.fieldLink RX6 19 "OreBlocksModel" "bookY" "[I" ∈ wsL_law := kr_4 _ (List.mem_of_getElem? (i := 13) rfl)
theorem kf_RX6_22 : Cond.fieldLink RX6 22 "OreBlocksModel" "bookIs" "[I" ∈ wsL_law := kr_4 _ (List.mem_of_getElem? (i := 14) rfl)
theorem kf_RX6_25 : Cond.fieldLink RX6 25 "OreBlocksModel" "seen" "[I" ∈ wsL_law := kr_4 _ (List.mem_of_getElem? (i := 15) rfl)
theorem kf_RX6_28 : Cond.fieldLink RX6 28 "OreBlocksModel" "inQuarter" "[I" ∈ wsL_law := kr_4 _ (List.mem_of_getElem? (i := 16) rfl)
theorem kf_RX6_31 : Cond.fieldLink RX6 31 "OreBlocksModel" "table" "[J" ∈ wsL_law := kr_4 _ (List.mem_of_getElem? (i := 17) rfl)
theorem kf_RX6_35 : Cond.fieldLink RX6 35 "OreBlocksModel" "right" "[J" ∈ wsL_law := kr_4 _ (List.mem_of_getElem? (i := 18) rfl)
theorem kf_RX6_38 : Cond.fieldLink RX6 38 "OreBlocksModel" "grown" "[J" ∈ wsL_law := kr_4 _ (List.mem_of_getElem? (i := 19) rfl)
theorem kf_RX6_41 : Cond.fieldLink RX6 41 "OreBlocksModel" "ups" "[J" ∈ wsL_law := kr_4 _ (List.mem_of_getElem? (i := 20) rfl)
theorem km_RL_13 : Cond.methodLink RL 13 yX5_told ∈ wsL_law := kr_4 _ (List.mem_of_getElem? (i := 21) rfl)
theorem ki_yX5_told : Cond.instanceMethod yX5_told ∈ wsL_law := kr_4 _ (List.mem_of_getElem? (i := 22) rfl)
theorem ks_yX5_told : Cond.selects RX5 yX5_told yX5_told ∈ wsL_law := kr_4 _ (List.mem_of_getElem? (i := 23) rfl)
theorem kc_yX5_told : Cond.code yX5_told cX5_told 2 (some .int) ∈ wsL_law := kr_5 _ (List.mem_of_getElem? (i := 0) rfl)
theorem kf_RX5_46 : Cond.fieldLink RX5 46 "OreBlocks$Ground" "samples" "I" ∈ wsL_law := kr_5 _ (List.mem_of_getElem? (i := 1) rfl)
theorem kf_RX5_50 : Cond.fieldLink RX5 50 "OreBlocks$Ground" "metric" "I" ∈ wsL_law := kr_5 _ (List.mem_of_getElem? (i := 2) rfl)
theorem kf_RX5_53 : Cond.fieldLink RX5 53 "OreBlocks$Ground" "nugget" "I" ∈ wsL_law := kr_5 _ (List.mem_of_getElem? (i := 3) rfl)
theorem kf_RX5_56 : Cond.fieldLink RX5 56 "OreBlocks$Ground" "steep" "I" ∈ wsL_law := kr_5 _ (List.mem_of_getElem? (i := 4) rfl)
theorem kf_RX5_59 : Cond.fieldLink RX5 59 "OreBlocks$Ground" "knot" "I" ∈ wsL_law := kr_5 _ (List.mem_of_getElem? (i := 5) rfl)
theorem kf_RX5_62 : Cond.fieldLink RX5 62 "OreBlocks$Ground" "flat" "I" ∈ wsL_law := kr_5 _ (List.mem_of_getElem? (i := 6) rfl)
theorem kf_RX5_65 : Cond.fieldLink RX5 65 "OreBlocks$Ground" "range" "I" ∈ wsL_law := kr_5 _ (List.mem_of_getElem? (i := 7) rfl)
theorem kf_RX5_68 : Cond.fieldLink RX5 68 "OreBlocks$Ground" "most" "I" ∈ wsL_law := kr_5 _ (List.mem_of_getElem? (i := 8) rfl)
theorem kf_RX5_71 : Cond.fieldLink RX5 71 "OreBlocks$Ground" "inQuarter" "I" ∈ wsL_law := kr_5 _ (List.mem_of_getElem? (i := 9) rfl)
theorem kf_RX5_74 : Cond.fieldLink RX5 74 "OreBlocks$Ground" "reach" "I" ∈ wsL_law := kr_5 _ (List.mem_of_getElem? (i := 10) rfl)
theorem kf_RX5_84 : Cond.fieldLink RX5 84 "OreBlocks$Book" "entries" "I" ∈ wsL_law := kr_5 _ (List.mem_of_getElem? (i := 11) rfl)
theorem kf_RX5_90 : Cond.fieldLink RX5 90 "OreBlocks$History" "kept" "I" ∈ wsL_law := kr_5 _ (List.mem_of_getElem? (i := 12) rfl)
theorem kf_RX5_93 : Cond.fieldLink RX5 93 "OreBlocks" "seed" "I" ∈ wsL_law := kr_5 _ (List.mem_of_getElem? (i := 13) rfl)
theorem kk_RX5_96 : Cond.constant RX5 96 (iI (-1000000002)) ∈ wsL_law := (show ((-1000000002) : Int32) = iI (-1000000002) by decide) ▸ kr_5 _ (List.mem_of_getElem? (i := 14) rfl)
theorem km_RX5_77 : Cond.methodLink RX5 77 yX5_countWithoutLeftOut ∈ wsL_law := kr_5 _ (List.mem_of_getElem? (i := 15) rfl)
theorem ki_yX5_countWithoutLeftOut : Cond.instanceMethod yX5_countWithoutLeftOut ∈ wsL_law := kr_5 _ (List.mem_of_getElem? (i := 16) rfl)
theorem ks_yX5_countWithoutLeftOut : Cond.selects RX5 yX5_countWithoutLeftOut yX5_countWithoutLeftOut ∈ wsL_law := kr_5 _ (List.mem_of_getElem? (i := 17) rfl)
theorem kc_yX5_countWithoutLeftOut : Cond.code yX5_countWithoutLeftOut cX5_countWithoutLeftOut 3 (some .int) ∈ wsL_law := kr_5 _ (List.mem_of_getElem? (i := 18) rfl)
theorem km_RX5_178 : Cond.methodLink RX5 178 yX5_weighLeftOut ∈ wsL_law := kr_5 _ (List.mem_of_getElem? (i := 19) rfl)
theorem ki_yX5_weighLeftOut : Cond.instanceMethod yX5_weighLeftOut ∈ wsL_law := kr_5 _ (List.mem_of_getElem? (i := 20) rfl)
theorem ks_yX5_weighLeftOut : Cond.selects RX5 yX5_weighLeftOut yX5_weighLeftOut ∈ wsL_law := kr_5 _ (List.mem_of_getElem? (i := 21) rfl)
theorem kc_yX5_weighLeftOut : Cond.code yX5_weighLeftOut cX5_weighLeftOut 2 none ∈ wsL_law := kr_5 _ (List.mem_of_getElem? (i := 22) rfl)
theorem kf_RX5_102 : Cond.fieldLink RX5 102 "OreBlocks$Ground" "xs" "[I" ∈ wsL_law := kr_5 _ (List.mem_of_getElem? (i := 23) rfl)
theorem kf_RX5_106 : Cond.fieldLink RX5 106 "OreBlocks$Ground" "ys" "[I" ∈ wsL_law := kr_6 _ (List.mem_of_getElem? (i := 0) rfl)
theorem km_RX5_128 : Cond.methodLink RX5 128 yX1_weigh ∈ wsL_law := kr_6 _ (List.mem_of_getElem? (i := 1) rfl)
theorem ki_yX1_weigh : Cond.instanceMethod yX1_weigh ∈ wsL_law := kr_6 _ (List.mem_of_getElem? (i := 2) rfl)
theorem ks_yX1_weigh : Cond.selects RX1 yX1_weigh yX1_weigh ∈ wsL_law := kr_6 _ (List.mem_of_getElem? (i := 3) rfl)
theorem kc_yX1_weigh : Cond.code yX1_weigh cX1_weigh 5 none ∈ wsL_law := kr_6 _ (List.mem_of_getElem? (i := 4) rfl)
theorem kf_RX1_41 : Cond.fieldLink RX1 41 "OreBlocks$Estimate" "places" "I" ∈ wsL_law := kr_6 _ (List.mem_of_getElem? (i := 5) rfl)
theorem kf_RX1_49 : Cond.fieldLink RX1 49 "OreBlocks$Estimate" "count" "I" ∈ wsL_law := kr_6 _ (List.mem_of_getElem? (i := 6) rfl)
theorem kf_RX1_52 : Cond.fieldLink RX1 52 "OreBlocks$Estimate" "whole" "J" ∈ wsL_law := kr_6 _ (List.mem_of_getElem? (i := 7) rfl)
theorem kf_RX1_56 : Cond.fieldLink RX1 56 "OreBlocks$Estimate" "sound" "Z" ∈ wsL_law := kr_6 _ (List.mem_of_getElem? (i := 8) rfl)
theorem km_RX1_45 : Cond.methodLink RX1 45 yX1_lookFrom ∈ wsL_law := kr_6 _ (List.mem_of_getElem? (i := 9) rfl)
theorem ki_yX1_lookFrom : Cond.instanceMethod yX1_lookFrom ∈ wsL_law := kr_6 _ (List.mem_of_getElem? (i := 10) rfl)
theorem ks_yX1_lookFrom : Cond.selects RX1 yX1_lookFrom yX1_lookFrom ∈ wsL_law := kr_6 _ (List.mem_of_getElem? (i := 11) rfl)
theorem kc_yX1_lookFrom : Cond.code yX1_lookFrom cX1_lookFrom 7 none ∈ wsL_law := kr_6 _ (List.mem_of_getElem? (i := 12) rfl)
theorem kf_RX1_83 : Cond.fieldLink RX1 83 "OreBlocks$Ground" "samples" "I" ∈ wsL_law := kr_6 _ (List.mem_of_getElem? (i := 13) rfl)
theorem kf_RX1_88 : Cond.fieldLink RX1 88 "OreBlocks$Ground" "xs" "[I" ∈ wsL_law := kr_6 _ (List.mem_of_getElem? (i := 14) rfl)
theorem kf_RX1_91 : Cond.fieldLink RX1 91 "OreBlocks$Ground" "ys" "[I" ∈ wsL_law := kr_6 _ (List.mem_of_getElem? (i := 15) rfl)
theorem kf_RX1_98 : Cond.fieldLink RX1 98 "OreBlocks$Ground" "most" "I" ∈ wsL_law := kr_6 _ (List.mem_of_getElem? (i := 16) rfl)
theorem km_RX1_94 : Cond.methodLink RX1 94 yX2_far ∈ wsL_law := kr_6 _ (List.mem_of_getElem? (i := 17) rfl)
theorem ki_yX2_far : Cond.instanceMethod yX2_far ∈ wsL_law := kr_6 _ (List.mem_of_getElem? (i := 18) rfl)
theorem ks_yX2_far : Cond.selects RX2 yX2_far yX2_far ∈ wsL_law := kr_6 _ (List.mem_of_getElem? (i := 19) rfl)
theorem kc_yX2_far : Cond.code yX2_far cX2_far 5 (some .int) ∈ wsL_law := kr_6 _ (List.mem_of_getElem? (i := 20) rfl)
theorem km_RX2_58 : Cond.methodLink RX2 58 Lib.Math.abs.name ∈ wsL_law := kr_6 _ (List.mem_of_getElem? (i := 21) rfl)
theorem kt_Lib_Math_abs_name : Cond.static Lib.Math.abs.name ∈ wsL_law := kr_6 _ (List.mem_of_getElem? (i := 22) rfl)
theorem kn__java_lang_Math_ : Cond.initialized "java/lang/Math" ∈ wsL_law := kr_6 _ (List.mem_of_getElem? (i := 23) rfl)
theorem kc_Lib_Math_abs_name : Cond.code Lib.Math.abs.name Lib.Math.abs.code 1 (some .int) ∈ wsL_law := kr_7 _ (List.mem_of_getElem? (i := 0) rfl)
theorem kf_RX2_55 : Cond.fieldLink RX2 55 "OreBlocks$Ground" "metric" "I" ∈ wsL_law := kr_7 _ (List.mem_of_getElem? (i := 1) rfl)
theorem km_RX2_64 : Cond.methodLink RX2 64 Lib.Math.max.name ∈ wsL_law := kr_7 _ (List.mem_of_getElem? (i := 2) rfl)
theorem kt_Lib_Math_max_name : Cond.static Lib.Math.max.name ∈ wsL_law := kr_7 _ (List.mem_of_getElem? (i := 3) rfl)
theorem kc_Lib_Math_max_name : Cond.code Lib.Math.max.name Lib.Math.max.code 2 (some .int) ∈ wsL_law := kr_7 _ (List.mem_of_getElem? (i := 4) rfl)
theorem km_RX1_101 : Cond.methodLink RX1 101 yX1_nearestBut ∈ wsL_law := kr_7 _ (List.mem_of_getElem? (i := 5) rfl)
theorem ki_yX1_nearestBut : Cond.instanceMethod yX1_nearestBut ∈ wsL_law := kr_7 _ (List.mem_of_getElem? (i := 6) rfl)
theorem ks_yX1_nearestBut : Cond.selects RX1 yX1_nearestBut yX1_nearestBut ∈ wsL_law := kr_7 _ (List.mem_of_getElem? (i := 7) rfl)
theorem kc_yX1_nearestBut : Cond.code yX1_nearestBut cX1_nearestBut 5 (some .int) ∈ wsL_law := kr_7 _ (List.mem_of_getElem? (i := 8) rfl)
theorem kf_RX1_112 : Cond.fieldLink RX1 112 "OreBlocks$Ground" "reach" "I" ∈ wsL_law := kr_7 _ (List.mem_of_getElem? (i := 9) rfl)
theorem km_RX1_105 : Cond.methodLink RX1 105 yX2_quarterOf ∈ wsL_law := kr_7 _ (List.mem_of_getElem? (i := 10) rfl)
theorem ki_yX2_quarterOf : Cond.instanceMethod yX2_quarterOf ∈ wsL_law := kr_7 _ (List.mem_of_getElem? (i := 11) rfl)
theorem ks_yX2_quarterOf : Cond.selects RX2 yX2_quarterOf yX2_quarterOf ∈ wsL_law := kr_7 _ (List.mem_of_getElem? (i := 12) rfl)
theorem kc_yX2_quarterOf : Cond.code yX2_quarterOf cX2_quarterOf 4 (some .int) ∈ wsL_law := kr_7 _ (List.mem_of_getElem? (i := 13) rfl)
theorem km_RX1_109 : Cond.methodLink RX1 109 yX1_lookAt ∈ wsL_law := kr_7 _ (List.mem_of_getElem? (i := 14) rfl)
theorem ki_yX1_lookAt : Cond.instanceMethod yX1_lookAt ∈ wsL_law := kr_7 _ (List.mem_of_getElem? (i := 15) rfl)
theorem ks_yX1_lookAt : Cond.selects RX1 yX1_lookAt yX1_lookAt ∈ wsL_law := kr_7 _ (List.mem_of_getElem? (i := 16) rfl)
theorem kc_yX1_lookAt : Cond.code yX1_lookAt cX1_lookAt 3 none ∈ wsL_law := kr_7 _ (List.mem_of_getElem? (i := 17) rfl)
theorem kf_RX1_115 : Cond.fieldLink RX1 115 "OreBlocks$Ground" "inQuarter" "I" ∈ wsL_law := kr_7 _ (List.mem_of_getElem? (i := 18) rfl)
theorem km_RX1_60 : Cond.methodLink RX1 60 yX1_fillBetween ∈ wsL_law := kr_7 _ (List.mem_of_getElem? (i := 19) rfl)
theorem ki_yX1_fillBetween : Cond.instanceMethod yX1_fillBetween ∈ wsL_law := kr_7 _ (List.mem_of_getElem? (i := 20) rfl)
theorem ks_yX1_fillBetween : Cond.selects RX1 yX1_fillBetween yX1_fillBetween ∈ wsL_law := kr_7 _ (List.mem_of_getElem? (i := 21) rfl)
theorem kc_yX1_fillBetween : Cond.code yX1_fillBetween cX1_fillBetween 5 none ∈ wsL_law := kr_7 _ (List.mem_of_getElem? (i := 22) rfl)
theorem km_RX1_118 : Cond.methodLink RX1 118 yX2_unlikeApart ∈ wsL_law := kr_7 _ (List.mem_of_getElem? (i := 23) rfl)
theorem ki_yX2_unlikeApart : Cond.instanceMethod yX2_unlikeApart ∈ wsL_law := kr_8 _ (List.mem_of_getElem? (i := 0) rfl)
theorem ks_yX2_unlikeApart : Cond.selects RX2 yX2_unlikeApart yX2_unlikeApart ∈ wsL_law := kr_8 _ (List.mem_of_getElem? (i := 1) rfl)
theorem kc_yX2_unlikeApart : Cond.code yX2_unlikeApart cX2_unlikeApart 3 (some .int) ∈ wsL_law := kr_8 _ (List.mem_of_getElem? (i := 2) rfl)
theorem km_RX2_71 : Cond.methodLink RX2 71 yX2_far ∈ wsL_law := kr_8 _ (List.mem_of_getElem? (i := 3) rfl)
theorem km_RX2_74 : Cond.methodLink RX2 74 yX2_unlikeOf ∈ wsL_law := kr_8 _ (List.mem_of_getElem? (i := 4) rfl)
theorem ki_yX2_unlikeOf : Cond.instanceMethod yX2_unlikeOf ∈ wsL_law := kr_8 _ (List.mem_of_getElem? (i := 5) rfl)
theorem ks_yX2_unlikeOf : Cond.selects RX2 yX2_unlikeOf yX2_unlikeOf ∈ wsL_law := kr_8 _ (List.mem_of_getElem? (i := 6) rfl)
theorem kc_yX2_unlikeOf : Cond.code yX2_unlikeOf cX2_unlikeOf 4 (some .int) ∈ wsL_law := kr_8 _ (List.mem_of_getElem? (i := 7) rfl)
theorem km_RX2_68 : Cond.methodLink RX2 68 Lib.Math.min.name ∈ wsL_law := kr_8 _ (List.mem_of_getElem? (i := 8) rfl)
theorem kt_Lib_Math_min_name : Cond.static Lib.Math.min.name ∈ wsL_law := kr_8 _ (List.mem_of_getElem? (i := 9) rfl)
theorem kc_Lib_Math_min_name : Cond.code Lib.Math.min.name Lib.Math.min.code 2 (some .int) ∈ wsL_law := kr_8 _ (List.mem_of_getElem? (i := 10) rfl)
theorem km_RX1_63 : Cond.methodLink RX1 63 yX1_sumToPlaces ∈ wsL_law := kr_8 _ (List.mem_of_getElem? (i := 11) rfl)
theorem ki_yX1_sumToPlaces : Cond.instanceMethod yX1_sumToPlaces ∈ wsL_law := kr_8 _ (List.mem_of_getElem? (i := 12) rfl)
theorem ks_yX1_sumToPlaces : Cond.selects RX1 yX1_sumToPlaces yX1_sumToPlaces ∈ wsL_law := kr_8 _ (List.mem_of_getElem? (i := 13) rfl)
theorem kc_yX1_sumToPlaces : Cond.code yX1_sumToPlaces cX1_sumToPlaces 7 none ∈ wsL_law := kr_8 _ (List.mem_of_getElem? (i := 14) rfl)
theorem km_RX1_121 : Cond.methodLink RX1 121 yX1_alongX ∈ wsL_law := kr_8 _ (List.mem_of_getElem? (i := 15) rfl)
theorem kt_yX1_alongX : Cond.static yX1_alongX ∈ wsL_law := kr_8 _ (List.mem_of_getElem? (i := 16) rfl)
theorem kc_yX1_alongX : Cond.code yX1_alongX cX1_alongX 1 (some .int) ∈ wsL_law := kr_8 _ (List.mem_of_getElem? (i := 17) rfl)
theorem km_RX1_124 : Cond.methodLink RX1 124 yX1_alongY ∈ wsL_law := kr_8 _ (List.mem_of_getElem? (i := 18) rfl)
theorem kt_yX1_alongY : Cond.static yX1_alongY ∈ wsL_law := kr_8 _ (List.mem_of_getElem? (i := 19) rfl)
theorem kc_yX1_alongY : Cond.code yX1_alongY cX1_alongY 1 (some .int) ∈ wsL_law := kr_8 _ (List.mem_of_getElem? (i := 20) rfl)
theorem km_RX1_67 : Cond.methodLink RX1 67 yX1_sumWithinPlaces ∈ wsL_law := kr_8 _ (List.mem_of_getElem? (i := 21) rfl)
theorem ki_yX1_sumWithinPlaces : Cond.instanceMethod yX1_sumWithinPlaces ∈ wsL_law := kr_8 _ (List.mem_of_getElem? (i := 22) rfl)
theorem ks_yX1_sumWithinPlaces : Cond.selects RX1 yX1_sumWithinPlaces yX1_sumWithinPlaces ∈ wsL_law := kr_8 _ (List.mem_of_getElem? (i := 23) rfl)
theorem kc_yX1_sumWithinPlaces : Cond.code yX1_sumWithinPlaces cX1_sumWithinPlaces 3 none ∈ wsL_law := kr_9 _ (List.mem_of_getElem? (i := 0) rfl)
theorem kf_RX1_127 : Cond.fieldLink RX1 127 "OreBlocks$Estimate" "withinPlaces" "I" ∈ wsL_law := kr_9 _ (List.mem_of_getElem? (i := 1) rfl)
theorem km_RX1_70 : Cond.methodLink RX1 70 yX1_fillTable ∈ wsL_law := kr_9 _ (List.mem_of_getElem? (i := 2) rfl)
theorem ki_yX1_fillTable : Cond.instanceMethod yX1_fillTable ∈ wsL_law := kr_9 _ (List.mem_of_getElem? (i := 3) rfl)
theorem ks_yX1_fillTable : Cond.selects RX1 yX1_fillTable yX1_fillTable ∈ wsL_law := kr_9 _ (List.mem_of_getElem? (i := 4) rfl)
theorem kc_yX1_fillTable : Cond.code yX1_fillTable cX1_fillTable 4 none ∈ wsL_law := kr_9 _ (List.mem_of_getElem? (i := 5) rfl)
theorem km_RX1_73 : Cond.methodLink RX1 73 yX1_cofactor ∈ wsL_law := kr_9 _ (List.mem_of_getElem? (i := 6) rfl)
theorem ki_yX1_cofactor : Cond.instanceMethod yX1_cofactor ∈ wsL_law := kr_9 _ (List.mem_of_getElem? (i := 7) rfl)
theorem ks_yX1_cofactor : Cond.selects RX1 yX1_cofactor yX1_cofactor ∈ wsL_law := kr_9 _ (List.mem_of_getElem? (i := 8) rfl)
theorem kc_yX1_cofactor : Cond.code yX1_cofactor cX1_cofactor 9 (some .long) ∈ wsL_law := kr_9 _ (List.mem_of_getElem? (i := 9) rfl)
theorem km_RX1_77 : Cond.methodLink RX1 77 yX1_share ∈ wsL_law := kr_9 _ (List.mem_of_getElem? (i := 10) rfl)
theorem ki_yX1_share : Cond.instanceMethod yX1_share ∈ wsL_law := kr_9 _ (List.mem_of_getElem? (i := 11) rfl)
theorem ks_yX1_share : Cond.selects RX1 yX1_share yX1_share ∈ wsL_law := kr_9 _ (List.mem_of_getElem? (i := 12) rfl)
theorem kc_yX1_share : Cond.code yX1_share cX1_share 4 none ∈ wsL_law := kr_9 _ (List.mem_of_getElem? (i := 13) rfl)
theorem km_RX1_80 : Cond.methodLink RX1 80 yX1_turnSigns ∈ wsL_law := kr_9 _ (List.mem_of_getElem? (i := 14) rfl)
theorem ki_yX1_turnSigns : Cond.instanceMethod yX1_turnSigns ∈ wsL_law := kr_9 _ (List.mem_of_getElem? (i := 15) rfl)
theorem ks_yX1_turnSigns : Cond.selects RX1 yX1_turnSigns yX1_turnSigns ∈ wsL_law := kr_9 _ (List.mem_of_getElem? (i := 16) rfl)
theorem kc_yX1_turnSigns : Cond.code yX1_turnSigns cX1_turnSigns 2 none ∈ wsL_law := kr_9 _ (List.mem_of_getElem? (i := 17) rfl)
theorem km_RX5_138 : Cond.methodLink RX5 138 yX1_exists ∈ wsL_law := kr_9 _ (List.mem_of_getElem? (i := 18) rfl)
theorem ki_yX1_exists : Cond.instanceMethod yX1_exists ∈ wsL_law := kr_9 _ (List.mem_of_getElem? (i := 19) rfl)
theorem ks_yX1_exists : Cond.selects RX1 yX1_exists yX1_exists ∈ wsL_law := kr_9 _ (List.mem_of_getElem? (i := 20) rfl)
theorem kc_yX1_exists : Cond.code yX1_exists cX1_exists 1 (some .boolean) ∈ wsL_law := kr_9 _ (List.mem_of_getElem? (i := 21) rfl)
theorem km_RX5_81 : Cond.methodLink RX5 81 yX5_farthestError ∈ wsL_law := kr_9 _ (List.mem_of_getElem? (i := 22) rfl)
theorem ki_yX5_farthestError : Cond.instanceMethod yX5_farthestError ∈ wsL_law := kr_9 _ (List.mem_of_getElem? (i := 23) rfl)
theorem ks_yX5_farthestError : Cond.selects RX5 yX5_farthestError yX5_farthestError ∈ wsL_law := kr_10 _ (List.mem_of_getElem? (i := 0) rfl)
theorem kc_yX5_farthestError : Cond.code yX5_farthestError cX5_farthestError 11 (some .int) ∈ wsL_law := kr_10 _ (List.mem_of_getElem? (i := 1) rfl)
theorem km_RX5_226 : Cond.methodLink RX5 226 Lib.MathLoose.abs_long.x ∈ wsL_law := kr_10 _ (List.mem_of_getElem? (i := 2) rfl)
theorem kt_Lib_MathLoose_abs_long_x : Cond.static Lib.MathLoose.abs_long.x ∈ wsL_law := kr_10 _ (List.mem_of_getElem? (i := 3) rfl)
theorem kc_Lib_MathLoose_abs_long_x : Cond.code Lib.MathLoose.abs_long.x Lib.MathLoose.abs_long.code 2 (some .long) ∈ wsL_law := kr_10 _ (List.mem_of_getElem? (i := 4) rfl)
theorem km_RX5_182 : Cond.methodLink RX5 182 yX5_errorAbove ∈ wsL_law := kr_10 _ (List.mem_of_getElem? (i := 5) rfl)
theorem ki_yX5_errorAbove : Cond.instanceMethod yX5_errorAbove ∈ wsL_law := kr_10 _ (List.mem_of_getElem? (i := 6) rfl)
theorem ks_yX5_errorAbove : Cond.selects RX5 yX5_errorAbove yX5_errorAbove ∈ wsL_law := kr_10 _ (List.mem_of_getElem? (i := 7) rfl)
theorem kc_yX5_errorAbove : Cond.code yX5_errorAbove cX5_errorAbove 2 (some .long) ∈ wsL_law := kr_10 _ (List.mem_of_getElem? (i := 8) rfl)
theorem kf_RX5_109 : Cond.fieldLink RX5 109 "OreBlocks$Ground" "grades" "[I" ∈ wsL_law := kr_10 _ (List.mem_of_getElem? (i := 9) rfl)
theorem km_RX5_223 : Cond.methodLink RX5 223 yX1_gradeAbove ∈ wsL_law := kr_10 _ (List.mem_of_getElem? (i := 10) rfl)
theorem ki_yX1_gradeAbove : Cond.instanceMethod yX1_gradeAbove ∈ wsL_law := kr_10 _ (List.mem_of_getElem? (i := 11) rfl)
theorem ks_yX1_gradeAbove : Cond.selects RX1 yX1_gradeAbove yX1_gradeAbove ∈ wsL_law := kr_10 _ (List.mem_of_getElem? (i := 12) rfl)
theorem kc_yX1_gradeAbove : Cond.code yX1_gradeAbove cX1_gradeAbove 4 (some .long) ∈ wsL_law := kr_10 _ (List.mem_of_getElem? (i := 13) rfl)
theorem kf_RX1_154 : Cond.fieldLink RX1 154 "OreBlocks$Ground" "grades" "[I" ∈ wsL_law := kr_10 _ (List.mem_of_getElem? (i := 14) rfl)
theorem km_RX5_168 : Cond.methodLink RX5 168 yX1_below ∈ wsL_law := kr_10 _ (List.mem_of_getElem? (i := 15) rfl)
theorem ki_yX1_below : Cond.instanceMethod yX1_below ∈ wsL_law := kr_10 _ (List.mem_of_getElem? (i := 16) rfl)
theorem ks_yX1_below : Cond.selects RX1 yX1_below yX1_below ∈ wsL_law := kr_10 _ (List.mem_of_getElem? (i := 17) rfl)
theorem kc_yX1_below : Cond.code yX1_below cX1_below 1 (some .long) ∈ wsL_law := kr_10 _ (List.mem_of_getElem? (i := 18) rfl)
theorem km_RX5_232 : Cond.methodLink RX5 232 yX5_isMore ∈ wsL_law := kr_10 _ (List.mem_of_getElem? (i := 19) rfl)
theorem kt_yX5_isMore : Cond.static yX5_isMore ∈ wsL_law := kr_10 _ (List.mem_of_getElem? (i := 20) rfl)
theorem kc_yX5_isMore : Cond.code yX5_isMore cX5_isMore 8 (some .boolean) ∈ wsL_law := kr_10 _ (List.mem_of_getElem? (i := 21) rfl)
theorem km_RX5_87 : Cond.methodLink RX5 87 yX5_firstWrong ∈ wsL_law := kr_10 _ (List.mem_of_getElem? (i := 22) rfl)
theorem ki_yX5_firstWrong : Cond.instanceMethod yX5_firstWrong ∈ wsL_law := kr_10 _ (List.mem_of_getElem? (i := 23) rfl)
theorem ks_yX5_firstWrong : Cond.selects RX5 yX5_firstWrong yX5_firstWrong ∈ wsL_law := kr_11 _ (List.mem_of_getElem? (i := 0) rfl)
theorem kc_yX5_firstWrong : Cond.code yX5_firstWrong cX5_firstWrong 4 (some .int) ∈ wsL_law := kr_11 _ (List.mem_of_getElem? (i := 1) rfl)
theorem kf_RX5_255 : Cond.fieldLink RX5 255 "OreBlocks$Book" "xs" "[I" ∈ wsL_law := kr_11 _ (List.mem_of_getElem? (i := 2) rfl)
theorem kf_RX5_256 : Cond.fieldLink RX5 256 "OreBlocks$Book" "ys" "[I" ∈ wsL_law := kr_11 _ (List.mem_of_getElem? (i := 3) rfl)
theorem kk_RX5_260 : Cond.constantLong RX5 260 (lI (-1)) ∈ wsL_law := (show ((-1) : Int64) = lI (-1) by decide) ▸ kr_11 _ (List.mem_of_getElem? (i := 4) rfl)
theorem kf_RX5_262 : Cond.fieldLink RX5 262 "OreBlocks$Book" "values" "[I" ∈ wsL_law := kr_11 _ (List.mem_of_getElem? (i := 5) rfl)
theorem km_RX5_257 : Cond.methodLink RX5 257 yX1_gradeCut ∈ wsL_law := kr_11 _ (List.mem_of_getElem? (i := 6) rfl)
theorem ki_yX1_gradeCut : Cond.instanceMethod yX1_gradeCut ∈ wsL_law := kr_11 _ (List.mem_of_getElem? (i := 7) rfl)
theorem ks_yX1_gradeCut : Cond.selects RX1 yX1_gradeCut yX1_gradeCut ∈ wsL_law := kr_11 _ (List.mem_of_getElem? (i := 8) rfl)
theorem kc_yX1_gradeCut : Cond.code yX1_gradeCut cX1_gradeCut 3 (some .long) ∈ wsL_law := kr_11 _ (List.mem_of_getElem? (i := 9) rfl)
theorem kk_RX1_157 : Cond.constantLong RX1 157 (lI (-1)) ∈ wsL_law := (show ((-1) : Int64) = lI (-1) by decide) ▸ kr_11 _ (List.mem_of_getElem? (i := 10) rfl)
theorem km_RX1_138 : Cond.methodLink RX1 138 yX1_below ∈ wsL_law := kr_11 _ (List.mem_of_getElem? (i := 11) rfl)
theorem km_RX1_134 : Cond.methodLink RX1 134 yX1_gradeAbove ∈ wsL_law := kr_11 _ (List.mem_of_getElem? (i := 12) rfl)
theorem km_RL_17 : Cond.methodLink RL 17 yX6_told ∈ wsL_law := kr_11 _ (List.mem_of_getElem? (i := 13) rfl)
theorem ki_yX6_told : Cond.instanceMethod yX6_told ∈ wsL_law := kr_11 _ (List.mem_of_getElem? (i := 14) rfl)
theorem ks_yX6_told : Cond.selects RX6 yX6_told yX6_told ∈ wsL_law := kr_11 _ (List.mem_of_getElem? (i := 15) rfl)
theorem kc_yX6_told : Cond.code yX6_told cX6_told 2 (some .int) ∈ wsL_law := kr_11 _ (List.mem_of_getElem? (i := 16) rfl)
theorem kk_RX6_141 : Cond.constantLong RX6 141 (lI 9) ∈ wsL_law := (show (9 : Int64) = lI 9 by decide) ▸ kr_11 _ (List.mem_of_getElem? (i := 17) rfl)
theorem kf_RX6_135 : Cond.fieldLink RX6 135 "OreBlocksModel" "booked" "I" ∈ wsL_law := kr_11 _ (List.mem_of_getElem? (i := 18) rfl)
theorem kf_RX6_153 : Cond.fieldLink RX6 153 "OreBlocksModel" "known" "I" ∈ wsL_law := kr_11 _ (List.mem_of_getElem? (i := 19) rfl)
theorem kf_RX6_156 : Cond.fieldLink RX6 156 "OreBlocksModel" "seed" "I" ∈ wsL_law := kr_11 _ (List.mem_of_getElem? (i := 20) rfl)
theorem kk_RX6_159 : Cond.constant RX6 159 (iI (-1000000002)) ∈ wsL_law := (show ((-1000000002) : Int32) = iI (-1000000002) by decide) ▸ kr_11 _ (List.mem_of_getElem? (i := 21) rfl)
theorem km_RX6_44 : Cond.methodLink RX6 44 yX6_in ∈ wsL_law := kr_11 _ (List.mem_of_getElem? (i := 22) rfl)
theorem kt_yX6_in : Cond.static yX6_in ∈ wsL_law := kr_11 _ (List.mem_of_getElem? (i := 23) rfl)
theorem kc_yX6_in : Cond.code yX6_in cX6_in 6 (some .boolean) ∈ wsL_law := kr_12 _ (List.mem_of_getElem? (i := 0) rfl)
theorem km_RX6_143 : Cond.methodLink RX6 143 yX6_withoutGuess ∈ wsL_law := kr_12 _ (List.mem_of_getElem? (i := 1) rfl)
theorem ki_yX6_withoutGuess : Cond.instanceMethod yX6_withoutGuess ∈ wsL_law := kr_12 _ (List.mem_of_getElem? (i := 2) rfl)
theorem ks_yX6_withoutGuess : Cond.selects RX6 yX6_withoutGuess yX6_withoutGuess ∈ wsL_law := kr_12 _ (List.mem_of_getElem? (i := 3) rfl)
theorem kc_yX6_withoutGuess : Cond.code yX6_withoutGuess cX6_withoutGuess 3 (some .int) ∈ wsL_law := kr_12 _ (List.mem_of_getElem? (i := 4) rfl)
theorem km_RX6_125 : Cond.methodLink RX6 125 yX6_leftOut ∈ wsL_law := kr_12 _ (List.mem_of_getElem? (i := 5) rfl)
theorem ki_yX6_leftOut : Cond.instanceMethod yX6_leftOut ∈ wsL_law := kr_12 _ (List.mem_of_getElem? (i := 6) rfl)
theorem ks_yX6_leftOut : Cond.selects RX6 yX6_leftOut yX6_leftOut ∈ wsL_law := kr_12 _ (List.mem_of_getElem? (i := 7) rfl)
theorem kc_yX6_leftOut : Cond.code yX6_leftOut cX6_leftOut 3 (some .boolean) ∈ wsL_law := kr_12 _ (List.mem_of_getElem? (i := 8) rfl)
theorem kf_RX6_108 : Cond.fieldLink RX6 108 "OreBlocksModel" "top" "J" ∈ wsL_law := kr_12 _ (List.mem_of_getElem? (i := 9) rfl)
theorem kf_RX6_111 : Cond.fieldLink RX6 111 "OreBlocksModel" "bottom" "J" ∈ wsL_law := kr_12 _ (List.mem_of_getElem? (i := 10) rfl)
theorem km_RX6_50 : Cond.methodLink RX6 50 yX6_slot ∈ wsL_law := kr_12 _ (List.mem_of_getElem? (i := 11) rfl)
theorem kt_yX6_slot : Cond.static yX6_slot ∈ wsL_law := kr_12 _ (List.mem_of_getElem? (i := 12) rfl)
theorem kc_yX6_slot : Cond.code yX6_slot cX6_slot 1 (some .int) ∈ wsL_law := kr_12 _ (List.mem_of_getElem? (i := 13) rfl)
theorem km_RX6_118 : Cond.methodLink RX6 118 yX6_guessAt ∈ wsL_law := kr_12 _ (List.mem_of_getElem? (i := 14) rfl)
theorem ki_yX6_guessAt : Cond.instanceMethod yX6_guessAt ∈ wsL_law := kr_12 _ (List.mem_of_getElem? (i := 15) rfl)
theorem ks_yX6_guessAt : Cond.selects RX6 yX6_guessAt yX6_guessAt ∈ wsL_law := kr_12 _ (List.mem_of_getElem? (i := 16) rfl)
theorem kc_yX6_guessAt : Cond.code yX6_guessAt cX6_guessAt 5 (some .boolean) ∈ wsL_law := kr_12 _ (List.mem_of_getElem? (i := 17) rfl)
theorem kf_RX6_65 : Cond.fieldLink RX6 65 "OreBlocksModel" "seens" "I" ∈ wsL_law := kr_12 _ (List.mem_of_getElem? (i := 18) rfl)
theorem kf_RX6_95 : Cond.fieldLink RX6 95 "OreBlocksModel" "scale" "J" ∈ wsL_law := kr_12 _ (List.mem_of_getElem? (i := 19) rfl)
theorem km_RX6_92 : Cond.methodLink RX6 92 yX6_layLooked ∈ wsL_law := kr_12 _ (List.mem_of_getElem? (i := 20) rfl)
theorem ki_yX6_layLooked : Cond.instanceMethod yX6_layLooked ∈ wsL_law := kr_12 _ (List.mem_of_getElem? (i := 21) rfl)
theorem ks_yX6_layLooked : Cond.selects RX6 yX6_layLooked yX6_layLooked ∈ wsL_law := kr_12 _ (List.mem_of_getElem? (i := 22) rfl)
theorem kc_yX6_layLooked : Cond.code yX6_layLooked cX6_layLooked 6 none ∈ wsL_law := kr_12 _ (List.mem_of_getElem? (i := 23) rfl)
theorem km_RX6_54 : Cond.methodLink RX6 54 yX6_far ∈ wsL_law := kr_13 _ (List.mem_of_getElem? (i := 0) rfl)
theorem ki_yX6_far : Cond.instanceMethod yX6_far ∈ wsL_law := kr_13 _ (List.mem_of_getElem? (i := 1) rfl)
theorem ks_yX6_far : Cond.selects RX6 yX6_far yX6_far ∈ wsL_law := kr_13 _ (List.mem_of_getElem? (i := 2) rfl)
theorem kc_yX6_far : Cond.code yX6_far cX6_far 7 (some .int) ∈ wsL_law := kr_13 _ (List.mem_of_getElem? (i := 3) rfl)
theorem km_RX6_69 : Cond.methodLink RX6 69 yX6_lookAt ∈ wsL_law := kr_13 _ (List.mem_of_getElem? (i := 4) rfl)
theorem ki_yX6_lookAt : Cond.instanceMethod yX6_lookAt ∈ wsL_law := kr_13 _ (List.mem_of_getElem? (i := 5) rfl)
theorem ks_yX6_lookAt : Cond.selects RX6 yX6_lookAt yX6_lookAt ∈ wsL_law := kr_13 _ (List.mem_of_getElem? (i := 6) rfl)
theorem kc_yX6_lookAt : Cond.code yX6_lookAt cX6_lookAt 5 none ∈ wsL_law := kr_13 _ (List.mem_of_getElem? (i := 7) rfl)
theorem km_RX6_61 : Cond.methodLink RX6 61 yX6_quarterOf ∈ wsL_law := kr_13 _ (List.mem_of_getElem? (i := 8) rfl)
theorem ki_yX6_quarterOf : Cond.instanceMethod yX6_quarterOf ∈ wsL_law := kr_13 _ (List.mem_of_getElem? (i := 9) rfl)
theorem ks_yX6_quarterOf : Cond.selects RX6 yX6_quarterOf yX6_quarterOf ∈ wsL_law := kr_13 _ (List.mem_of_getElem? (i := 10) rfl)
theorem kc_yX6_quarterOf : Cond.code yX6_quarterOf cX6_quarterOf 6 (some .int) ∈ wsL_law := kr_13 _ (List.mem_of_getElem? (i := 11) rfl)
theorem km_RX6_77 : Cond.methodLink RX6 77 yX6_unlikeTo ∈ wsL_law := kr_13 _ (List.mem_of_getElem? (i := 12) rfl)
theorem ki_yX6_unlikeTo : Cond.instanceMethod yX6_unlikeTo ∈ wsL_law := kr_13 _ (List.mem_of_getElem? (i := 13) rfl)
theorem ks_yX6_unlikeTo : Cond.selects RX6 yX6_unlikeTo yX6_unlikeTo ∈ wsL_law := kr_13 _ (List.mem_of_getElem? (i := 14) rfl)
theorem kc_yX6_unlikeTo : Cond.code yX6_unlikeTo cX6_unlikeTo 4 (some .int) ∈ wsL_law := kr_13 _ (List.mem_of_getElem? (i := 15) rfl)
theorem km_RX6_58 : Cond.methodLink RX6 58 yX6_unlikeOf ∈ wsL_law := kr_13 _ (List.mem_of_getElem? (i := 16) rfl)
theorem ki_yX6_unlikeOf : Cond.instanceMethod yX6_unlikeOf ∈ wsL_law := kr_13 _ (List.mem_of_getElem? (i := 17) rfl)
theorem ks_yX6_unlikeOf : Cond.selects RX6 yX6_unlikeOf yX6_unlikeOf ∈ wsL_law := kr_13 _ (List.mem_of_getElem? (i := 18) rfl)
theorem kc_yX6_unlikeOf : Cond.code yX6_unlikeOf cX6_unlikeOf 4 (some .int) ∈ wsL_law := kr_13 _ (List.mem_of_getElem? (i := 19) rfl)
theorem km_RX6_98 : Cond.methodLink RX6 98 yX6_solved ∈ wsL_law := kr_13 _ (List.mem_of_getElem? (i := 20) rfl)
theorem ki_yX6_solved : Cond.instanceMethod yX6_solved ∈ wsL_law := kr_13 _ (List.mem_of_getElem? (i := 21) rfl)
theorem ks_yX6_solved : Cond.selects RX6 yX6_solved yX6_solved ∈ wsL_law := kr_13 _ (List.mem_of_getElem? (i := 22) rfl)
theorem kc_yX6_solved : Cond.code yX6_solved cX6_solved 2 (some .boolean) ∈ wsL_law := kr_13 _ (List.mem_of_getElem? (i := 23) rfl)
theorem kf_RX6_88 : Cond.fieldLink RX6 88 "OreBlocksModel" "below" "J" ∈ wsL_law := kr_14 _ (List.mem_of_getElem? (i := 0) rfl)
theorem km_RX6_80 : Cond.methodLink RX6 80 yX6_layTable ∈ wsL_law := kr_14 _ (List.mem_of_getElem? (i := 1) rfl)
theorem ki_yX6_layTable : Cond.instanceMethod yX6_layTable ∈ wsL_law := kr_14 _ (List.mem_of_getElem? (i := 2) rfl)
theorem ks_yX6_layTable : Cond.selects RX6 yX6_layTable yX6_layTable ∈ wsL_law := kr_14 _ (List.mem_of_getElem? (i := 3) rfl)
theorem kc_yX6_layTable : Cond.code yX6_layTable cX6_layTable 6 none ∈ wsL_law := kr_14 _ (List.mem_of_getElem? (i := 4) rfl)
theorem km_RX6_84 : Cond.methodLink RX6 84 yX6_determinant ∈ wsL_law := kr_14 _ (List.mem_of_getElem? (i := 5) rfl)
theorem ki_yX6_determinant : Cond.instanceMethod yX6_determinant ∈ wsL_law := kr_14 _ (List.mem_of_getElem? (i := 6) rfl)
theorem ks_yX6_determinant : Cond.selects RX6 yX6_determinant yX6_determinant ∈ wsL_law := kr_14 _ (List.mem_of_getElem? (i := 7) rfl)
theorem kc_yX6_determinant : Cond.code yX6_determinant cX6_determinant 12 (some .long) ∈ wsL_law := kr_14 _ (List.mem_of_getElem? (i := 8) rfl)
theorem km_RX6_73 : Cond.methodLink RX6 73 yX6_greaterIn ∈ wsL_law := kr_14 _ (List.mem_of_getElem? (i := 9) rfl)
theorem kt_yX6_greaterIn : Cond.static yX6_greaterIn ∈ wsL_law := kr_14 _ (List.mem_of_getElem? (i := 10) rfl)
theorem kc_yX6_greaterIn : Cond.code yX6_greaterIn cX6_greaterIn 4 (some .int) ∈ wsL_law := kr_14 _ (List.mem_of_getElem? (i := 11) rfl)
theorem km_RX6_122 : Cond.methodLink RX6 122 yX6_layGrade ∈ wsL_law := kr_14 _ (List.mem_of_getElem? (i := 12) rfl)
theorem ki_yX6_layGrade : Cond.instanceMethod yX6_layGrade ∈ wsL_law := kr_14 _ (List.mem_of_getElem? (i := 13) rfl)
theorem ks_yX6_layGrade : Cond.selects RX6 yX6_layGrade yX6_layGrade ∈ wsL_law := kr_14 _ (List.mem_of_getElem? (i := 14) rfl)
theorem kc_yX6_layGrade : Cond.code yX6_layGrade cX6_layGrade 4 none ∈ wsL_law := kr_14 _ (List.mem_of_getElem? (i := 15) rfl)
theorem km_RX6_114 : Cond.methodLink RX6 114 yX6_reduce ∈ wsL_law := kr_14 _ (List.mem_of_getElem? (i := 16) rfl)
theorem ki_yX6_reduce : Cond.instanceMethod yX6_reduce ∈ wsL_law := kr_14 _ (List.mem_of_getElem? (i := 17) rfl)
theorem ks_yX6_reduce : Cond.selects RX6 yX6_reduce yX6_reduce ∈ wsL_law := kr_14 _ (List.mem_of_getElem? (i := 18) rfl)
theorem kc_yX6_reduce : Cond.code yX6_reduce cX6_reduce 11 none ∈ wsL_law := kr_14 _ (List.mem_of_getElem? (i := 19) rfl)
theorem km_RX6_104 : Cond.methodLink RX6 104 yX6_size ∈ wsL_law := kr_14 _ (List.mem_of_getElem? (i := 20) rfl)
theorem kt_yX6_size : Cond.static yX6_size ∈ wsL_law := kr_14 _ (List.mem_of_getElem? (i := 21) rfl)
theorem kc_yX6_size : Cond.code yX6_size cX6_size 2 (some .long) ∈ wsL_law := kr_14 _ (List.mem_of_getElem? (i := 22) rfl)
theorem km_RX6_147 : Cond.methodLink RX6 147 yX6_farthestOff ∈ wsL_law := kr_14 _ (List.mem_of_getElem? (i := 23) rfl)
theorem ki_yX6_farthestOff : Cond.instanceMethod yX6_farthestOff ∈ wsL_law := kr_15 _ (List.mem_of_getElem? (i := 0) rfl)
theorem ks_yX6_farthestOff : Cond.selects RX6 yX6_farthestOff yX6_farthestOff ∈ wsL_law := kr_15 _ (List.mem_of_getElem? (i := 1) rfl)
theorem kc_yX6_farthestOff : Cond.code yX6_farthestOff cX6_farthestOff 7 (some .int) ∈ wsL_law := kr_15 _ (List.mem_of_getElem? (i := 2) rfl)
theorem km_RX6_129 : Cond.methodLink RX6 129 yX6_isMore ∈ wsL_law := kr_15 _ (List.mem_of_getElem? (i := 3) rfl)
theorem kt_yX6_isMore : Cond.static yX6_isMore ∈ wsL_law := kr_15 _ (List.mem_of_getElem? (i := 4) rfl)
theorem kc_yX6_isMore : Cond.code yX6_isMore cX6_isMore 26 (some .boolean) ∈ wsL_law := kr_15 _ (List.mem_of_getElem? (i := 5) rfl)
theorem km_RX6_150 : Cond.methodLink RX6 150 yX6_wrongEntry ∈ wsL_law := kr_15 _ (List.mem_of_getElem? (i := 6) rfl)
theorem ki_yX6_wrongEntry : Cond.instanceMethod yX6_wrongEntry ∈ wsL_law := kr_15 _ (List.mem_of_getElem? (i := 7) rfl)
theorem ks_yX6_wrongEntry : Cond.selects RX6 yX6_wrongEntry yX6_wrongEntry ∈ wsL_law := kr_15 _ (List.mem_of_getElem? (i := 8) rfl)
theorem kc_yX6_wrongEntry : Cond.code yX6_wrongEntry cX6_wrongEntry 2 (some .int) ∈ wsL_law := kr_15 _ (List.mem_of_getElem? (i := 9) rfl)
theorem km_RX6_138 : Cond.methodLink RX6 138 yX6_cutAt ∈ wsL_law := kr_15 _ (List.mem_of_getElem? (i := 10) rfl)
theorem ki_yX6_cutAt : Cond.instanceMethod yX6_cutAt ∈ wsL_law := kr_15 _ (List.mem_of_getElem? (i := 11) rfl)
theorem ks_yX6_cutAt : Cond.selects RX6 yX6_cutAt yX6_cutAt ∈ wsL_law := kr_15 _ (List.mem_of_getElem? (i := 12) rfl)
theorem kc_yX6_cutAt : Cond.code yX6_cutAt cX6_cutAt 3 (some .long) ∈ wsL_law := kr_15 _ (List.mem_of_getElem? (i := 13) rfl)
theorem kk_RX6_133 : Cond.constantLong RX6 133 (lI (-1)) ∈ wsL_law := (show ((-1) : Int64) = lI (-1) by decide) ▸ kr_15 _ (List.mem_of_getElem? (i := 14) rfl)
theorem km_RL_18 : Cond.methodLink RL 18 yX5_at ∈ wsL_law := kr_15 _ (List.mem_of_getElem? (i := 15) rfl)
theorem ki_yX5_at : Cond.instanceMethod yX5_at ∈ wsL_law := kr_15 _ (List.mem_of_getElem? (i := 16) rfl)
theorem ks_yX5_at : Cond.selects RX5 yX5_at yX5_at ∈ wsL_law := kr_15 _ (List.mem_of_getElem? (i := 17) rfl)
theorem kc_yX5_at : Cond.code yX5_at cX5_at 3 (some .int) ∈ wsL_law := kr_15 _ (List.mem_of_getElem? (i := 18) rfl)
theorem kk_RX5_101 : Cond.constant RX5 101 (iI (-1000000001)) ∈ wsL_law := (show ((-1000000001) : Int32) = iI (-1000000001) by decide) ▸ kr_15 _ (List.mem_of_getElem? (i := 19) rfl)
theorem km_RX5_97 : Cond.methodLink RX5 97 yX5_isSample ∈ wsL_law := kr_15 _ (List.mem_of_getElem? (i := 20) rfl)
theorem ki_yX5_isSample : Cond.instanceMethod yX5_isSample ∈ wsL_law := kr_15 _ (List.mem_of_getElem? (i := 21) rfl)
theorem ks_yX5_isSample : Cond.selects RX5 yX5_isSample yX5_isSample ∈ wsL_law := kr_15 _ (List.mem_of_getElem? (i := 22) rfl)
theorem kc_yX5_isSample : Cond.code yX5_isSample cX5_isSample 2 (some .boolean) ∈ wsL_law := kr_15 _ (List.mem_of_getElem? (i := 23) rfl)
theorem km_RX5_112 : Cond.methodLink RX5 112 yX5_isWithin ∈ wsL_law := kr_16 _ (List.mem_of_getElem? (i := 0) rfl)
theorem kt_yX5_isWithin : Cond.static yX5_isWithin ∈ wsL_law := kr_16 _ (List.mem_of_getElem? (i := 1) rfl)
theorem kc_yX5_isWithin : Cond.code yX5_isWithin cX5_isWithin 3 (some .boolean) ∈ wsL_law := kr_16 _ (List.mem_of_getElem? (i := 2) rfl)
theorem km_RL_22 : Cond.methodLink RL 22 yX6_at ∈ wsL_law := kr_16 _ (List.mem_of_getElem? (i := 3) rfl)
theorem ki_yX6_at : Cond.instanceMethod yX6_at ∈ wsL_law := kr_16 _ (List.mem_of_getElem? (i := 4) rfl)
theorem ks_yX6_at : Cond.selects RX6 yX6_at yX6_at ∈ wsL_law := kr_16 _ (List.mem_of_getElem? (i := 5) rfl)
theorem kc_yX6_at : Cond.code yX6_at cX6_at 3 (some .int) ∈ wsL_law := kr_16 _ (List.mem_of_getElem? (i := 6) rfl)
theorem kk_RX6_163 : Cond.constant RX6 163 (iI (-1000000001)) ∈ wsL_law := (show ((-1000000001) : Int32) = iI (-1000000001) by decide) ▸ kr_16 _ (List.mem_of_getElem? (i := 7) rfl)
theorem kk_RX6_164 : Cond.constantLong RX6 164 (lI 2) ∈ wsL_law := (show (2 : Int64) = lI 2 by decide) ▸ kr_16 _ (List.mem_of_getElem? (i := 8) rfl)
theorem km_RX6_160 : Cond.methodLink RX6 160 yX6_isSample ∈ wsL_law := kr_16 _ (List.mem_of_getElem? (i := 9) rfl)
theorem ki_yX6_isSample : Cond.instanceMethod yX6_isSample ∈ wsL_law := kr_16 _ (List.mem_of_getElem? (i := 10) rfl)
theorem ks_yX6_isSample : Cond.selects RX6 yX6_isSample yX6_isSample ∈ wsL_law := kr_16 _ (List.mem_of_getElem? (i := 11) rfl)
theorem kc_yX6_isSample : Cond.code yX6_isSample cX6_isSample 2 (some .boolean) ∈ wsL_law := kr_16 _ (List.mem_of_getElem? (i := 12) rfl)
theorem km_RL_23 : Cond.methodLink RL 23 yX5_unlike ∈ wsL_law := kr_16 _ (List.mem_of_getElem? (i := 13) rfl)
theorem ki_yX5_unlike : Cond.instanceMethod yX5_unlike ∈ wsL_law := kr_16 _ (List.mem_of_getElem? (i := 14) rfl)
theorem ks_yX5_unlike : Cond.selects RX5 yX5_unlike yX5_unlike ∈ wsL_law := kr_16 _ (List.mem_of_getElem? (i := 15) rfl)
theorem kc_yX5_unlike : Cond.code yX5_unlike cX5_unlike 2 (some .int) ∈ wsL_law := kr_16 _ (List.mem_of_getElem? (i := 16) rfl)
theorem km_RX5_116 : Cond.methodLink RX5 116 yX2_unlikeOf ∈ wsL_law := kr_16 _ (List.mem_of_getElem? (i := 17) rfl)
theorem km_RL_26 : Cond.methodLink RL 26 yX6_unlike ∈ wsL_law := kr_16 _ (List.mem_of_getElem? (i := 18) rfl)
theorem ki_yX6_unlike : Cond.instanceMethod yX6_unlike ∈ wsL_law := kr_16 _ (List.mem_of_getElem? (i := 19) rfl)
theorem ks_yX6_unlike : Cond.selects RX6 yX6_unlike yX6_unlike ∈ wsL_law := kr_16 _ (List.mem_of_getElem? (i := 20) rfl)
theorem kc_yX6_unlike : Cond.code yX6_unlike cX6_unlike 2 (some .int) ∈ wsL_law := kr_16 _ (List.mem_of_getElem? (i := 21) rfl)
theorem kk_RX6_166 : Cond.constantLong RX6 166 (lI 62) ∈ wsL_law := (show (62 : Int64) = lI 62 by decide) ▸ kr_16 _ (List.mem_of_getElem? (i := 22) rfl)
theorem km_RL_27 : Cond.methodLink RL 27 yX5_place ∈ wsL_law := kr_16 _ (List.mem_of_getElem? (i := 23) rfl)
theorem ki_yX5_place : Cond.instanceMethod yX5_place ∈ wsL_law := kr_17 _ (List.mem_of_getElem? (i := 0) rfl)
theorem ks_yX5_place : Cond.selects RX5 yX5_place yX5_place ∈ wsL_law := kr_17 _ (List.mem_of_getElem? (i := 1) rfl)
theorem kc_yX5_place : Cond.code yX5_place cX5_place 4 (some .int) ∈ wsL_law := kr_17 _ (List.mem_of_getElem? (i := 2) rfl)
theorem kf_RX5_132 : Cond.fieldLink RX5 132 "OreBlocks$Estimate" "count" "I" ∈ wsL_law := kr_17 _ (List.mem_of_getElem? (i := 3) rfl)
theorem kf_RX5_142 : Cond.fieldLink RX5 142 "OreBlocks$Estimate" "sound" "Z" ∈ wsL_law := kr_17 _ (List.mem_of_getElem? (i := 4) rfl)
theorem km_RX5_120 : Cond.methodLink RX5 120 yX5_isPlace ∈ wsL_law := kr_17 _ (List.mem_of_getElem? (i := 5) rfl)
theorem kt_yX5_isPlace : Cond.static yX5_isPlace ∈ wsL_law := kr_17 _ (List.mem_of_getElem? (i := 6) rfl)
theorem kc_yX5_isPlace : Cond.code yX5_isPlace cX5_isPlace 2 (some .boolean) ∈ wsL_law := kr_17 _ (List.mem_of_getElem? (i := 7) rfl)
theorem km_RX5_124 : Cond.methodLink RX5 124 yX2_sampleAt ∈ wsL_law := kr_17 _ (List.mem_of_getElem? (i := 8) rfl)
theorem ki_yX2_sampleAt : Cond.instanceMethod yX2_sampleAt ∈ wsL_law := kr_17 _ (List.mem_of_getElem? (i := 9) rfl)
theorem ks_yX2_sampleAt : Cond.selects RX2 yX2_sampleAt yX2_sampleAt ∈ wsL_law := kr_17 _ (List.mem_of_getElem? (i := 10) rfl)
theorem kc_yX2_sampleAt : Cond.code yX2_sampleAt cX2_sampleAt 4 (some .int) ∈ wsL_law := kr_17 _ (List.mem_of_getElem? (i := 11) rfl)
theorem kf_RX2_46 : Cond.fieldLink RX2 46 "OreBlocks$Ground" "samples" "I" ∈ wsL_law := kr_17 _ (List.mem_of_getElem? (i := 12) rfl)
theorem km_RX5_135 : Cond.methodLink RX5 135 yX1_setOfLooked ∈ wsL_law := kr_17 _ (List.mem_of_getElem? (i := 13) rfl)
theorem ki_yX1_setOfLooked : Cond.instanceMethod yX1_setOfLooked ∈ wsL_law := kr_17 _ (List.mem_of_getElem? (i := 14) rfl)
theorem ks_yX1_setOfLooked : Cond.selects RX1 yX1_setOfLooked yX1_setOfLooked ∈ wsL_law := kr_17 _ (List.mem_of_getElem? (i := 15) rfl)
theorem kc_yX1_setOfLooked : Cond.code yX1_setOfLooked cX1_setOfLooked 3 (some .int) ∈ wsL_law := kr_17 _ (List.mem_of_getElem? (i := 16) rfl)
theorem km_RX5_146 : Cond.methodLink RX5 146 yX1_setBelowNothing ∈ wsL_law := kr_17 _ (List.mem_of_getElem? (i := 17) rfl)
theorem ki_yX1_setBelowNothing : Cond.instanceMethod yX1_setBelowNothing ∈ wsL_law := kr_17 _ (List.mem_of_getElem? (i := 18) rfl)
theorem ks_yX1_setBelowNothing : Cond.selects RX1 yX1_setBelowNothing yX1_setBelowNothing ∈ wsL_law := kr_17 _ (List.mem_of_getElem? (i := 19) rfl)
theorem kc_yX1_setBelowNothing : Cond.code yX1_setBelowNothing cX1_setBelowNothing 3 (some .int) ∈ wsL_law := kr_17 _ (List.mem_of_getElem? (i := 20) rfl)
theorem km_RX1_130 : Cond.methodLink RX1 130 yX1_exists ∈ wsL_law := kr_17 _ (List.mem_of_getElem? (i := 21) rfl)
theorem km_RL_31 : Cond.methodLink RL 31 yX6_place ∈ wsL_law := kr_17 _ (List.mem_of_getElem? (i := 22) rfl)
theorem ki_yX6_place : Cond.instanceMethod yX6_place ∈ wsL_law := kr_17 _ (List.mem_of_getElem? (i := 23) rfl)
theorem ks_yX6_place : Cond.selects RX6 yX6_place yX6_place ∈ wsL_law := kr_18 _ (List.mem_of_getElem? (i := 0) rfl)
theorem kc_yX6_place : Cond.code yX6_place cX6_place 5 (some .int) ∈ wsL_law := kr_18 _ (List.mem_of_getElem? (i := 1) rfl)
theorem kk_RX6_172 : Cond.constantLong RX6 172 (lI 5) ∈ wsL_law := (show (5 : Int64) = lI 5 by decide) ▸ kr_18 _ (List.mem_of_getElem? (i := 2) rfl)
theorem km_RX6_168 : Cond.methodLink RX6 168 yX6_isPlace ∈ wsL_law := kr_18 _ (List.mem_of_getElem? (i := 3) rfl)
theorem kt_yX6_isPlace : Cond.static yX6_isPlace ∈ wsL_law := kr_18 _ (List.mem_of_getElem? (i := 4) rfl)
theorem kc_yX6_isPlace : Cond.code yX6_isPlace cX6_isPlace 2 (some .boolean) ∈ wsL_law := kr_18 _ (List.mem_of_getElem? (i := 5) rfl)
theorem kk_RX6_48 : Cond.constantLong RX6 48 (lI 31) ∈ wsL_law := (show (31 : Int64) = lI 31 by decide) ▸ kr_18 _ (List.mem_of_getElem? (i := 6) rfl)
theorem km_RX6_174 : Cond.methodLink RX6 174 yX6_there ∈ wsL_law := kr_18 _ (List.mem_of_getElem? (i := 7) rfl)
theorem ki_yX6_there : Cond.instanceMethod yX6_there ∈ wsL_law := kr_18 _ (List.mem_of_getElem? (i := 8) rfl)
theorem ks_yX6_there : Cond.selects RX6 yX6_there yX6_there ∈ wsL_law := kr_18 _ (List.mem_of_getElem? (i := 9) rfl)
theorem kc_yX6_there : Cond.code yX6_there cX6_there 4 (some .int) ∈ wsL_law := kr_18 _ (List.mem_of_getElem? (i := 10) rfl)
theorem km_RX6_177 : Cond.methodLink RX6 177 yX6_looks ∈ wsL_law := kr_18 _ (List.mem_of_getElem? (i := 11) rfl)
theorem ki_yX6_looks : Cond.instanceMethod yX6_looks ∈ wsL_law := kr_18 _ (List.mem_of_getElem? (i := 12) rfl)
theorem ks_yX6_looks : Cond.selects RX6 yX6_looks yX6_looks ∈ wsL_law := kr_18 _ (List.mem_of_getElem? (i := 13) rfl)
theorem kc_yX6_looks : Cond.code yX6_looks cX6_looks 3 (some .int) ∈ wsL_law := kr_18 _ (List.mem_of_getElem? (i := 14) rfl)
theorem km_RX6_180 : Cond.methodLink RX6 180 yX6_isSound ∈ wsL_law := kr_18 _ (List.mem_of_getElem? (i := 15) rfl)
theorem ki_yX6_isSound : Cond.instanceMethod yX6_isSound ∈ wsL_law := kr_18 _ (List.mem_of_getElem? (i := 16) rfl)
theorem ks_yX6_isSound : Cond.selects RX6 yX6_isSound yX6_isSound ∈ wsL_law := kr_18 _ (List.mem_of_getElem? (i := 17) rfl)
theorem kc_yX6_isSound : Cond.code yX6_isSound cX6_isSound 5 (some .boolean) ∈ wsL_law := kr_18 _ (List.mem_of_getElem? (i := 18) rfl)
theorem km_RX6_183 : Cond.methodLink RX6 183 yX6_negatives ∈ wsL_law := kr_18 _ (List.mem_of_getElem? (i := 19) rfl)
theorem ki_yX6_negatives : Cond.instanceMethod yX6_negatives ∈ wsL_law := kr_18 _ (List.mem_of_getElem? (i := 20) rfl)
theorem ks_yX6_negatives : Cond.selects RX6 yX6_negatives yX6_negatives ∈ wsL_law := kr_18 _ (List.mem_of_getElem? (i := 21) rfl)
theorem kc_yX6_negatives : Cond.code yX6_negatives cX6_negatives 3 (some .int) ∈ wsL_law := kr_18 _ (List.mem_of_getElem? (i := 22) rfl)
theorem km_RL_32 : Cond.methodLink RL 32 yX5_looked ∈ wsL_law := kr_18 _ (List.mem_of_getElem? (i := 23) rfl)
theorem ki_yX5_looked : Cond.instanceMethod yX5_looked ∈ wsL_law := kr_19 _ (List.mem_of_getElem? (i := 0) rfl)
theorem ks_yX5_looked : Cond.selects RX5 yX5_looked yX5_looked ∈ wsL_law := kr_19 _ (List.mem_of_getElem? (i := 1) rfl)
theorem kc_yX5_looked : Cond.code yX5_looked cX5_looked 4 (some .int) ∈ wsL_law := kr_19 _ (List.mem_of_getElem? (i := 2) rfl)
theorem kf_RX5_153 : Cond.fieldLink RX5 153 "OreBlocks$Estimate" "looked" "[I" ∈ wsL_law := kr_19 _ (List.mem_of_getElem? (i := 3) rfl)
theorem km_RX5_149 : Cond.methodLink RX5 149 yX1_lookFrom ∈ wsL_law := kr_19 _ (List.mem_of_getElem? (i := 4) rfl)
theorem km_RL_35 : Cond.methodLink RL 35 yX6_looked ∈ wsL_law := kr_19 _ (List.mem_of_getElem? (i := 5) rfl)
theorem ki_yX6_looked : Cond.instanceMethod yX6_looked ∈ wsL_law := kr_19 _ (List.mem_of_getElem? (i := 6) rfl)
theorem ks_yX6_looked : Cond.selects RX6 yX6_looked yX6_looked ∈ wsL_law := kr_19 _ (List.mem_of_getElem? (i := 7) rfl)
theorem kc_yX6_looked : Cond.code yX6_looked cX6_looked 4 (some .int) ∈ wsL_law := kr_19 _ (List.mem_of_getElem? (i := 8) rfl)
theorem kk_RX6_186 : Cond.constantLong RX6 186 (lI 3) ∈ wsL_law := (show (3 : Int64) = lI 3 by decide) ▸ kr_19 _ (List.mem_of_getElem? (i := 9) rfl)
theorem km_RL_36 : Cond.methodLink RL 36 yX5_guess ∈ wsL_law := kr_19 _ (List.mem_of_getElem? (i := 10) rfl)
theorem ki_yX5_guess : Cond.instanceMethod yX5_guess ∈ wsL_law := kr_19 _ (List.mem_of_getElem? (i := 11) rfl)
theorem ks_yX5_guess : Cond.selects RX5 yX5_guess yX5_guess ∈ wsL_law := kr_19 _ (List.mem_of_getElem? (i := 12) rfl)
theorem kc_yX5_guess : Cond.code yX5_guess cX5_guess 4 (some .long) ∈ wsL_law := kr_19 _ (List.mem_of_getElem? (i := 13) rfl)
theorem kk_RX5_156 : Cond.constantLong RX5 156 (lI (-4000000000000000002)) ∈ wsL_law := (show ((-4000000000000000002) : Int64) = lI (-4000000000000000002) by decide) ▸ kr_19 _ (List.mem_of_getElem? (i := 14) rfl)
theorem kk_RX5_162 : Cond.constantLong RX5 162 (lI (-4000000000000000000)) ∈ wsL_law := (show ((-4000000000000000000) : Int64) = lI (-4000000000000000000) by decide) ▸ kr_19 _ (List.mem_of_getElem? (i := 15) rfl)
theorem km_RX5_158 : Cond.methodLink RX5 158 yX1_tellPart ∈ wsL_law := kr_19 _ (List.mem_of_getElem? (i := 16) rfl)
theorem ki_yX1_tellPart : Cond.instanceMethod yX1_tellPart ∈ wsL_law := kr_19 _ (List.mem_of_getElem? (i := 17) rfl)
theorem ks_yX1_tellPart : Cond.selects RX1 yX1_tellPart yX1_tellPart ∈ wsL_law := kr_19 _ (List.mem_of_getElem? (i := 18) rfl)
theorem kc_yX1_tellPart : Cond.code yX1_tellPart cX1_tellPart 3 (some .long) ∈ wsL_law := kr_19 _ (List.mem_of_getElem? (i := 19) rfl)
theorem kt_yX5_inLowestTerms : Cond.static yX5_inLowestTerms ∈ wsL_law := kr_19 _ (List.mem_of_getElem? (i := 20) rfl)
theorem kc_yX5_inLowestTerms : Cond.code yX5_inLowestTerms cX5_inLowestTerms 7 (some .long) ∈ wsL_law := kr_19 _ (List.mem_of_getElem? (i := 21) rfl)
theorem km_RX5_265 : Cond.methodLink RX5 265 yX5_commonDivisor ∈ wsL_law := kr_19 _ (List.mem_of_getElem? (i := 22) rfl)
theorem kt_yX5_commonDivisor : Cond.static yX5_commonDivisor ∈ wsL_law := kr_19 _ (List.mem_of_getElem? (i := 23) rfl)
theorem kc_yX5_commonDivisor : Cond.code yX5_commonDivisor cX5_commonDivisor 11 (some .long) ∈ wsL_law := kr_20 _ (List.mem_of_getElem? (i := 0) rfl)
theorem km_RX1_145 : Cond.methodLink RX1 145 yX1_spreadAbove ∈ wsL_law := kr_20 _ (List.mem_of_getElem? (i := 1) rfl)
theorem ki_yX1_spreadAbove : Cond.instanceMethod yX1_spreadAbove ∈ wsL_law := kr_20 _ (List.mem_of_getElem? (i := 2) rfl)
theorem ks_yX1_spreadAbove : Cond.selects RX1 yX1_spreadAbove yX1_spreadAbove ∈ wsL_law := kr_20 _ (List.mem_of_getElem? (i := 3) rfl)
theorem kc_yX1_spreadAbove : Cond.code yX1_spreadAbove cX1_spreadAbove 4 (some .long) ∈ wsL_law := kr_20 _ (List.mem_of_getElem? (i := 4) rfl)
theorem km_RX1_151 : Cond.methodLink RX1 151 yX1_floorAbove ∈ wsL_law := kr_20 _ (List.mem_of_getElem? (i := 5) rfl)
theorem ki_yX1_floorAbove : Cond.instanceMethod yX1_floorAbove ∈ wsL_law := kr_20 _ (List.mem_of_getElem? (i := 6) rfl)
theorem ks_yX1_floorAbove : Cond.selects RX1 yX1_floorAbove yX1_floorAbove ∈ wsL_law := kr_20 _ (List.mem_of_getElem? (i := 7) rfl)
theorem kc_yX1_floorAbove : Cond.code yX1_floorAbove cX1_floorAbove 4 (some .long) ∈ wsL_law := kr_20 _ (List.mem_of_getElem? (i := 8) rfl)
theorem km_RX1_148 : Cond.methodLink RX1 148 yX1_spreadBelow ∈ wsL_law := kr_20 _ (List.mem_of_getElem? (i := 9) rfl)
theorem ki_yX1_spreadBelow : Cond.instanceMethod yX1_spreadBelow ∈ wsL_law := kr_20 _ (List.mem_of_getElem? (i := 10) rfl)
theorem ks_yX1_spreadBelow : Cond.selects RX1 yX1_spreadBelow yX1_spreadBelow ∈ wsL_law := kr_20 _ (List.mem_of_getElem? (i := 11) rfl)
theorem kc_yX1_spreadBelow : Cond.code yX1_spreadBelow cX1_spreadBelow 1 (some .long) ∈ wsL_law := kr_20 _ (List.mem_of_getElem? (i := 12) rfl)
theorem km_RL_40 : Cond.methodLink RL 40 yX6_guess ∈ wsL_law := kr_20 _ (List.mem_of_getElem? (i := 13) rfl)
theorem ki_yX6_guess : Cond.instanceMethod yX6_guess ∈ wsL_law := kr_20 _ (List.mem_of_getElem? (i := 14) rfl)
theorem ks_yX6_guess : Cond.selects RX6 yX6_guess yX6_guess ∈ wsL_law := kr_20 _ (List.mem_of_getElem? (i := 15) rfl)
theorem kc_yX6_guess : Cond.code yX6_guess cX6_guess 4 (some .long) ∈ wsL_law := kr_20 _ (List.mem_of_getElem? (i := 16) rfl)
theorem kk_RX6_188 : Cond.constantLong RX6 188 (lI (-4000000000000000002)) ∈ wsL_law := (show ((-4000000000000000002) : Int64) = lI (-4000000000000000002) by decide) ▸ kr_20 _ (List.mem_of_getElem? (i := 17) rfl)
theorem kk_RX6_190 : Cond.constantLong RX6 190 (lI (-4000000000000000000)) ∈ wsL_law := (show ((-4000000000000000000) : Int64) = lI (-4000000000000000000) by decide) ▸ kr_20 _ (List.mem_of_getElem? (i := 18) rfl)
theorem km_RX6_192 : Cond.methodLink RX6 192 yX6_laySpread ∈ wsL_law := kr_20 _ (List.mem_of_getElem? (i := 19) rfl)
theorem ki_yX6_laySpread : Cond.instanceMethod yX6_laySpread ∈ wsL_law := kr_20 _ (List.mem_of_getElem? (i := 20) rfl)
theorem ks_yX6_laySpread : Cond.selects RX6 yX6_laySpread yX6_laySpread ∈ wsL_law := kr_20 _ (List.mem_of_getElem? (i := 21) rfl)
theorem kc_yX6_laySpread : Cond.code yX6_laySpread cX6_laySpread 6 none ∈ wsL_law := kr_20 _ (List.mem_of_getElem? (i := 22) rfl)
theorem km_RL_41 : Cond.methodLink RL 41 yX5_weight ∈ wsL_law := kr_20 _ (List.mem_of_getElem? (i := 23) rfl)
theorem ki_yX5_weight : Cond.instanceMethod yX5_weight ∈ wsL_law := kr_21 _ (List.mem_of_getElem? (i := 0) rfl)
theorem ks_yX5_weight : Cond.selects RX5 yX5_weight yX5_weight ∈ wsL_law := kr_21 _ (List.mem_of_getElem? (i := 1) rfl)
theorem kc_yX5_weight : Cond.code yX5_weight cX5_weight 5 (some .long) ∈ wsL_law := kr_21 _ (List.mem_of_getElem? (i := 2) rfl)
theorem kf_RX5_164 : Cond.fieldLink RX5 164 "OreBlocks$Estimate" "parts" "[J" ∈ wsL_law := kr_21 _ (List.mem_of_getElem? (i := 3) rfl)
theorem km_RX5_172 : Cond.methodLink RX5 172 yX5_inLowestTerms ∈ wsL_law := kr_21 _ (List.mem_of_getElem? (i := 4) rfl)
theorem km_RL_45 : Cond.methodLink RL 45 yX6_weight ∈ wsL_law := kr_21 _ (List.mem_of_getElem? (i := 5) rfl)
theorem ki_yX6_weight : Cond.instanceMethod yX6_weight ∈ wsL_law := kr_21 _ (List.mem_of_getElem? (i := 6) rfl)
theorem ks_yX6_weight : Cond.selects RX6 yX6_weight yX6_weight ∈ wsL_law := kr_21 _ (List.mem_of_getElem? (i := 7) rfl)
theorem kc_yX6_weight : Cond.code yX6_weight cX6_weight 5 (some .long) ∈ wsL_law := kr_21 _ (List.mem_of_getElem? (i := 8) rfl)
theorem km_RL_46 : Cond.methodLink RL 46 yX5_block ∈ wsL_law := kr_21 _ (List.mem_of_getElem? (i := 9) rfl)
theorem ki_yX5_block : Cond.instanceMethod yX5_block ∈ wsL_law := kr_21 _ (List.mem_of_getElem? (i := 10) rfl)
theorem ks_yX5_block : Cond.selects RX5 yX5_block yX5_block ∈ wsL_law := kr_21 _ (List.mem_of_getElem? (i := 11) rfl)
theorem kc_yX5_block : Cond.code yX5_block cX5_block 4 (some .long) ∈ wsL_law := kr_21 _ (List.mem_of_getElem? (i := 12) rfl)
theorem km_RL_49 : Cond.methodLink RL 49 yX6_block ∈ wsL_law := kr_21 _ (List.mem_of_getElem? (i := 13) rfl)
theorem ki_yX6_block : Cond.instanceMethod yX6_block ∈ wsL_law := kr_21 _ (List.mem_of_getElem? (i := 14) rfl)
theorem ks_yX6_block : Cond.selects RX6 yX6_block yX6_block ∈ wsL_law := kr_21 _ (List.mem_of_getElem? (i := 15) rfl)
theorem kc_yX6_block : Cond.code yX6_block cX6_block 4 (some .long) ∈ wsL_law := kr_21 _ (List.mem_of_getElem? (i := 16) rfl)
theorem kk_RX6_196 : Cond.constantLong RX6 196 (lI 30) ∈ wsL_law := (show (30 : Int64) = lI 30 by decide) ▸ kr_21 _ (List.mem_of_getElem? (i := 17) rfl)
theorem km_RX6_198 : Cond.methodLink RX6 198 yX6_guessBlock ∈ wsL_law := kr_21 _ (List.mem_of_getElem? (i := 18) rfl)
theorem ki_yX6_guessBlock : Cond.instanceMethod yX6_guessBlock ∈ wsL_law := kr_21 _ (List.mem_of_getElem? (i := 19) rfl)
theorem ks_yX6_guessBlock : Cond.selects RX6 yX6_guessBlock yX6_guessBlock ∈ wsL_law := kr_21 _ (List.mem_of_getElem? (i := 20) rfl)
theorem kc_yX6_guessBlock : Cond.code yX6_guessBlock cX6_guessBlock 5 (some .boolean) ∈ wsL_law := kr_21 _ (List.mem_of_getElem? (i := 21) rfl)
theorem kk_RX6_102 : Cond.constantLong RX6 102 (lI 4) ∈ wsL_law := (show (4 : Int64) = lI 4 by decide) ▸ kr_21 _ (List.mem_of_getElem? (i := 22) rfl)
theorem km_RX6_201 : Cond.methodLink RX6 201 yX6_inner ∈ wsL_law := kr_21 _ (List.mem_of_getElem? (i := 23) rfl)
theorem ki_yX6_inner : Cond.instanceMethod yX6_inner ∈ wsL_law := kr_22 _ (List.mem_of_getElem? (i := 0) rfl)
theorem ks_yX6_inner : Cond.selects RX6 yX6_inner yX6_inner ∈ wsL_law := kr_22 _ (List.mem_of_getElem? (i := 1) rfl)
theorem kc_yX6_inner : Cond.code yX6_inner cX6_inner 6 (some .long) ∈ wsL_law := kr_22 _ (List.mem_of_getElem? (i := 2) rfl)
theorem km_RL_50 : Cond.methodLink RL 50 yX5_error ∈ wsL_law := kr_22 _ (List.mem_of_getElem? (i := 3) rfl)
theorem ki_yX5_error : Cond.instanceMethod yX5_error ∈ wsL_law := kr_22 _ (List.mem_of_getElem? (i := 4) rfl)
theorem ks_yX5_error : Cond.selects RX5 yX5_error yX5_error ∈ wsL_law := kr_22 _ (List.mem_of_getElem? (i := 5) rfl)
theorem kc_yX5_error : Cond.code yX5_error cX5_error 3 (some .long) ∈ wsL_law := kr_22 _ (List.mem_of_getElem? (i := 6) rfl)
theorem kk_RX5_176 : Cond.constantLong RX5 176 (lI (-4000000000000000001)) ∈ wsL_law := (show ((-4000000000000000001) : Int64) = lI (-4000000000000000001) by decide) ▸ kr_22 _ (List.mem_of_getElem? (i := 7) rfl)
theorem km_RL_54 : Cond.methodLink RL 54 yX6_error ∈ wsL_law := kr_22 _ (List.mem_of_getElem? (i := 8) rfl)
theorem ki_yX6_error : Cond.instanceMethod yX6_error ∈ wsL_law := kr_22 _ (List.mem_of_getElem? (i := 9) rfl)
theorem ks_yX6_error : Cond.selects RX6 yX6_error yX6_error ∈ wsL_law := kr_22 _ (List.mem_of_getElem? (i := 10) rfl)
theorem kc_yX6_error : Cond.code yX6_error cX6_error 3 (some .long) ∈ wsL_law := kr_22 _ (List.mem_of_getElem? (i := 11) rfl)
theorem kk_RX6_205 : Cond.constantLong RX6 205 (lI (-4000000000000000001)) ∈ wsL_law := (show ((-4000000000000000001) : Int64) = lI (-4000000000000000001) by decide) ▸ kr_22 _ (List.mem_of_getElem? (i := 12) rfl)
theorem km_RL_55 : Cond.methodLink RL 55 yX5_hole ∈ wsL_law := kr_22 _ (List.mem_of_getElem? (i := 13) rfl)
theorem ki_yX5_hole : Cond.instanceMethod yX5_hole ∈ wsL_law := kr_22 _ (List.mem_of_getElem? (i := 14) rfl)
theorem ks_yX5_hole : Cond.selects RX5 yX5_hole yX5_hole ∈ wsL_law := kr_22 _ (List.mem_of_getElem? (i := 15) rfl)
theorem kc_yX5_hole : Cond.code yX5_hole cX5_hole 5 (some .int) ∈ wsL_law := kr_22 _ (List.mem_of_getElem? (i := 16) rfl)
theorem km_RX5_185 : Cond.methodLink RX5 185 yX5_nextHole ∈ wsL_law := kr_22 _ (List.mem_of_getElem? (i := 17) rfl)
theorem ki_yX5_nextHole : Cond.instanceMethod yX5_nextHole ∈ wsL_law := kr_22 _ (List.mem_of_getElem? (i := 18) rfl)
theorem ks_yX5_nextHole : Cond.selects RX5 yX5_nextHole yX5_nextHole ∈ wsL_law := kr_22 _ (List.mem_of_getElem? (i := 19) rfl)
theorem kc_yX5_nextHole : Cond.code yX5_nextHole cX5_nextHole 16 (some .int) ∈ wsL_law := kr_22 _ (List.mem_of_getElem? (i := 20) rfl)
theorem km_RX5_236 : Cond.methodLink RX5 236 yX5_weighEmptyPlace ∈ wsL_law := kr_22 _ (List.mem_of_getElem? (i := 21) rfl)
theorem ki_yX5_weighEmptyPlace : Cond.instanceMethod yX5_weighEmptyPlace ∈ wsL_law := kr_22 _ (List.mem_of_getElem? (i := 22) rfl)
theorem ks_yX5_weighEmptyPlace : Cond.selects RX5 yX5_weighEmptyPlace yX5_weighEmptyPlace ∈ wsL_law := kr_22 _ (List.mem_of_getElem? (i := 23) rfl)
theorem kc_yX5_weighEmptyPlace : Cond.code yX5_weighEmptyPlace cX5_weighEmptyPlace 3 (some .boolean) ∈ wsL_law := kr_23 _ (List.mem_of_getElem? (i := 0) rfl)
theorem km_RX5_239 : Cond.methodLink RX5 239 yX1_spreadAbove ∈ wsL_law := kr_23 _ (List.mem_of_getElem? (i := 1) rfl)
theorem km_RX5_242 : Cond.methodLink RX5 242 yX1_spreadBelow ∈ wsL_law := kr_23 _ (List.mem_of_getElem? (i := 2) rfl)
theorem km_RL_59 : Cond.methodLink RL 59 yX6_hole ∈ wsL_law := kr_23 _ (List.mem_of_getElem? (i := 3) rfl)
theorem ki_yX6_hole : Cond.instanceMethod yX6_hole ∈ wsL_law := kr_23 _ (List.mem_of_getElem? (i := 4) rfl)
theorem ks_yX6_hole : Cond.selects RX6 yX6_hole yX6_hole ∈ wsL_law := kr_23 _ (List.mem_of_getElem? (i := 5) rfl)
theorem kc_yX6_hole : Cond.code yX6_hole cX6_hole 13 (some .int) ∈ wsL_law := kr_23 _ (List.mem_of_getElem? (i := 6) rfl)
theorem kk_RX6_207 : Cond.constantLong RX6 207 (lI 7) ∈ wsL_law := (show (7 : Int64) = lI 7 by decide) ▸ kr_23 _ (List.mem_of_getElem? (i := 7) rfl)
theorem km_RL_60 : Cond.methodLink RL 60 yX5_sample ∈ wsL_law := kr_23 _ (List.mem_of_getElem? (i := 8) rfl)
theorem ki_yX5_sample : Cond.instanceMethod yX5_sample ∈ wsL_law := kr_23 _ (List.mem_of_getElem? (i := 9) rfl)
theorem ks_yX5_sample : Cond.selects RX5 yX5_sample yX5_sample ∈ wsL_law := kr_23 _ (List.mem_of_getElem? (i := 10) rfl)
theorem kc_yX5_sample : Cond.code yX5_sample cX5_sample 4 (some .int) ∈ wsL_law := kr_23 _ (List.mem_of_getElem? (i := 11) rfl)
theorem kk_RX5_192 : Cond.constant RX5 192 (iI (-1000000004)) ∈ wsL_law := (show ((-1000000004) : Int32) = iI (-1000000004) by decide) ▸ kr_23 _ (List.mem_of_getElem? (i := 12) rfl)
theorem kk_RX5_193 : Cond.constant RX5 193 (iI (-1000000003)) ∈ wsL_law := (show ((-1000000003) : Int32) = iI (-1000000003) by decide) ▸ kr_23 _ (List.mem_of_getElem? (i := 13) rfl)
theorem km_RX5_189 : Cond.methodLink RX5 189 yX5_isGrade ∈ wsL_law := kr_23 _ (List.mem_of_getElem? (i := 14) rfl)
theorem kt_yX5_isGrade : Cond.static yX5_isGrade ∈ wsL_law := kr_23 _ (List.mem_of_getElem? (i := 15) rfl)
theorem kc_yX5_isGrade : Cond.code yX5_isGrade cX5_isGrade 1 (some .boolean) ∈ wsL_law := kr_23 _ (List.mem_of_getElem? (i := 16) rfl)
theorem km_RX5_194 : Cond.methodLink RX5 194 yX3_remember ∈ wsL_law := kr_23 _ (List.mem_of_getElem? (i := 17) rfl)
theorem ki_yX3_remember : Cond.instanceMethod yX3_remember ∈ wsL_law := kr_23 _ (List.mem_of_getElem? (i := 18) rfl)
theorem ks_yX3_remember : Cond.selects RX3 yX3_remember yX3_remember ∈ wsL_law := kr_23 _ (List.mem_of_getElem? (i := 19) rfl)
theorem kc_yX3_remember : Cond.code yX3_remember cX3_remember 2 none ∈ wsL_law := kr_23 _ (List.mem_of_getElem? (i := 20) rfl)
theorem kf_RX3_18 : Cond.fieldLink RX3 18 "OreBlocks$History" "next" "I" ∈ wsL_law := kr_23 _ (List.mem_of_getElem? (i := 21) rfl)
theorem kf_RX3_26 : Cond.fieldLink RX3 26 "OreBlocks$History" "kept" "I" ∈ wsL_law := kr_23 _ (List.mem_of_getElem? (i := 22) rfl)
theorem km_RX3_29 : Cond.methodLink RX3 29 Lib.Math.min.name ∈ wsL_law := kr_23 _ (List.mem_of_getElem? (i := 23) rfl)
theorem km_RX3_22 : Cond.methodLink RX3 22 yX2_become ∈ wsL_law := kr_24 _ (List.mem_of_getElem? (i := 0) rfl)
theorem ki_yX2_become : Cond.instanceMethod yX2_become ∈ wsL_law := kr_24 _ (List.mem_of_getElem? (i := 1) rfl)
theorem ks_yX2_become : Cond.selects RX2 yX2_become yX2_become ∈ wsL_law := kr_24 _ (List.mem_of_getElem? (i := 2) rfl)
theorem kc_yX2_become : Cond.code yX2_become cX2_become 2 none ∈ wsL_law := kr_24 _ (List.mem_of_getElem? (i := 3) rfl)
theorem km_RX2_49 : Cond.methodLink RX2 49 arraycopyName ∈ wsL_law := kr_24 _ (List.mem_of_getElem? (i := 4) rfl)
theorem kz_native_arraycopyName : Cond.native arraycopyName ∈ wsL_law := kr_24 _ (List.mem_of_getElem? (i := 5) rfl)
theorem kt_arraycopyName : Cond.static arraycopyName ∈ wsL_law := kr_24 _ (List.mem_of_getElem? (i := 6) rfl)
theorem kn__java_lang_System_ : Cond.initialized "java/lang/System" ∈ wsL_law := kr_24 _ (List.mem_of_getElem? (i := 7) rfl)
theorem km_RX5_197 : Cond.methodLink RX5 197 yX2_addSample ∈ wsL_law := kr_24 _ (List.mem_of_getElem? (i := 8) rfl)
theorem ki_yX2_addSample : Cond.instanceMethod yX2_addSample ∈ wsL_law := kr_24 _ (List.mem_of_getElem? (i := 9) rfl)
theorem ks_yX2_addSample : Cond.selects RX2 yX2_addSample yX2_addSample ∈ wsL_law := kr_24 _ (List.mem_of_getElem? (i := 10) rfl)
theorem kc_yX2_addSample : Cond.code yX2_addSample cX2_addSample 4 none ∈ wsL_law := kr_24 _ (List.mem_of_getElem? (i := 11) rfl)
theorem km_RL_63 : Cond.methodLink RL 63 yX6_sample ∈ wsL_law := kr_24 _ (List.mem_of_getElem? (i := 12) rfl)
theorem ki_yX6_sample : Cond.instanceMethod yX6_sample ∈ wsL_law := kr_24 _ (List.mem_of_getElem? (i := 13) rfl)
theorem ks_yX6_sample : Cond.selects RX6 yX6_sample yX6_sample ∈ wsL_law := kr_24 _ (List.mem_of_getElem? (i := 14) rfl)
theorem kc_yX6_sample : Cond.code yX6_sample cX6_sample 4 (some .int) ∈ wsL_law := kr_24 _ (List.mem_of_getElem? (i := 15) rfl)
theorem kk_RX6_216 : Cond.constantLong RX6 216 (lI 999) ∈ wsL_law := (show (999 : Int64) = lI 999 by decide) ▸ kr_24 _ (List.mem_of_getElem? (i := 16) rfl)
theorem kk_RX6_218 : Cond.constant RX6 218 (iI (-1000000004)) ∈ wsL_law := (show ((-1000000004) : Int32) = iI (-1000000004) by decide) ▸ kr_24 _ (List.mem_of_getElem? (i := 17) rfl)
theorem kk_RX6_222 : Cond.constant RX6 222 (iI (-1000000003)) ∈ wsL_law := (show ((-1000000003) : Int32) = iI (-1000000003) by decide) ▸ kr_24 _ (List.mem_of_getElem? (i := 18) rfl)
theorem km_RX6_219 : Cond.methodLink RX6 219 yX6_come ∈ wsL_law := kr_24 _ (List.mem_of_getElem? (i := 19) rfl)
theorem ki_yX6_come : Cond.instanceMethod yX6_come ∈ wsL_law := kr_24 _ (List.mem_of_getElem? (i := 20) rfl)
theorem ks_yX6_come : Cond.selects RX6 yX6_come yX6_come ∈ wsL_law := kr_24 _ (List.mem_of_getElem? (i := 21) rfl)
theorem kc_yX6_come : Cond.code yX6_come cX6_come 5 (some .int) ∈ wsL_law := kr_24 _ (List.mem_of_getElem? (i := 22) rfl)
theorem km_RX6_213 : Cond.methodLink RX6 213 yX6_remember ∈ wsL_law := kr_24 _ (List.mem_of_getElem? (i := 23) rfl)
theorem ki_yX6_remember : Cond.instanceMethod yX6_remember ∈ wsL_law := kr_25 _ (List.mem_of_getElem? (i := 0) rfl)
theorem ks_yX6_remember : Cond.selects RX6 yX6_remember yX6_remember ∈ wsL_law := kr_25 _ (List.mem_of_getElem? (i := 1) rfl)
theorem kc_yX6_remember : Cond.code yX6_remember cX6_remember 2 none ∈ wsL_law := kr_25 _ (List.mem_of_getElem? (i := 2) rfl)
theorem km_RX6_209 : Cond.methodLink RX6 209 yX6_copyRow ∈ wsL_law := kr_25 _ (List.mem_of_getElem? (i := 3) rfl)
theorem ki_yX6_copyRow : Cond.instanceMethod yX6_copyRow ∈ wsL_law := kr_25 _ (List.mem_of_getElem? (i := 4) rfl)
theorem ks_yX6_copyRow : Cond.selects RX6 yX6_copyRow yX6_copyRow ∈ wsL_law := kr_25 _ (List.mem_of_getElem? (i := 5) rfl)
theorem kc_yX6_copyRow : Cond.code yX6_copyRow cX6_copyRow 4 none ∈ wsL_law := kr_25 _ (List.mem_of_getElem? (i := 6) rfl)
theorem km_RL_64 : Cond.methodLink RL 64 yX5_take ∈ wsL_law := kr_25 _ (List.mem_of_getElem? (i := 7) rfl)
theorem ki_yX5_take : Cond.instanceMethod yX5_take ∈ wsL_law := kr_25 _ (List.mem_of_getElem? (i := 8) rfl)
theorem ks_yX5_take : Cond.selects RX5 yX5_take yX5_take ∈ wsL_law := kr_25 _ (List.mem_of_getElem? (i := 9) rfl)
theorem kc_yX5_take : Cond.code yX5_take cX5_take 2 (some .int) ∈ wsL_law := kr_25 _ (List.mem_of_getElem? (i := 10) rfl)
theorem km_RX5_200 : Cond.methodLink RX5 200 yX2_removeSample ∈ wsL_law := kr_25 _ (List.mem_of_getElem? (i := 11) rfl)
theorem ki_yX2_removeSample : Cond.instanceMethod yX2_removeSample ∈ wsL_law := kr_25 _ (List.mem_of_getElem? (i := 12) rfl)
theorem ks_yX2_removeSample : Cond.selects RX2 yX2_removeSample yX2_removeSample ∈ wsL_law := kr_25 _ (List.mem_of_getElem? (i := 13) rfl)
theorem kc_yX2_removeSample : Cond.code yX2_removeSample cX2_removeSample 3 none ∈ wsL_law := kr_25 _ (List.mem_of_getElem? (i := 14) rfl)
theorem km_RL_67 : Cond.methodLink RL 67 yX6_take ∈ wsL_law := kr_25 _ (List.mem_of_getElem? (i := 15) rfl)
theorem ki_yX6_take : Cond.instanceMethod yX6_take ∈ wsL_law := kr_25 _ (List.mem_of_getElem? (i := 16) rfl)
theorem ks_yX6_take : Cond.selects RX6 yX6_take yX6_take ∈ wsL_law := kr_25 _ (List.mem_of_getElem? (i := 17) rfl)
theorem kc_yX6_take : Cond.code yX6_take cX6_take 3 (some .int) ∈ wsL_law := kr_25 _ (List.mem_of_getElem? (i := 18) rfl)
theorem km_RL_68 : Cond.methodLink RL 68 yX5_grade ∈ wsL_law := kr_25 _ (List.mem_of_getElem? (i := 19) rfl)
theorem ki_yX5_grade : Cond.instanceMethod yX5_grade ∈ wsL_law := kr_25 _ (List.mem_of_getElem? (i := 20) rfl)
theorem ks_yX5_grade : Cond.selects RX5 yX5_grade yX5_grade ∈ wsL_law := kr_25 _ (List.mem_of_getElem? (i := 21) rfl)
theorem kc_yX5_grade : Cond.code yX5_grade cX5_grade 4 (some .int) ∈ wsL_law := kr_25 _ (List.mem_of_getElem? (i := 22) rfl)
theorem km_RL_71 : Cond.methodLink RL 71 yX6_grade ∈ wsL_law := kr_25 _ (List.mem_of_getElem? (i := 23) rfl)
theorem ki_yX6_grade : Cond.instanceMethod yX6_grade ∈ wsL_law := kr_26 _ (List.mem_of_getElem? (i := 0) rfl)
theorem ks_yX6_grade : Cond.selects RX6 yX6_grade yX6_grade ∈ wsL_law := kr_26 _ (List.mem_of_getElem? (i := 1) rfl)
theorem kc_yX6_grade : Cond.code yX6_grade cX6_grade 3 (some .int) ∈ wsL_law := kr_26 _ (List.mem_of_getElem? (i := 2) rfl)
theorem km_RX6_223 : Cond.methodLink RX6 223 yX6_put ∈ wsL_law := kr_26 _ (List.mem_of_getElem? (i := 3) rfl)
theorem ki_yX6_put : Cond.instanceMethod yX6_put ∈ wsL_law := kr_26 _ (List.mem_of_getElem? (i := 4) rfl)
theorem ks_yX6_put : Cond.selects RX6 yX6_put yX6_put ∈ wsL_law := kr_26 _ (List.mem_of_getElem? (i := 5) rfl)
theorem kc_yX6_put : Cond.code yX6_put cX6_put 4 (some .int) ∈ wsL_law := kr_26 _ (List.mem_of_getElem? (i := 6) rfl)
theorem km_RL_72 : Cond.methodLink RL 72 yX5_pieces ∈ wsL_law := kr_26 _ (List.mem_of_getElem? (i := 7) rfl)
theorem ki_yX5_pieces : Cond.instanceMethod yX5_pieces ∈ wsL_law := kr_26 _ (List.mem_of_getElem? (i := 8) rfl)
theorem ks_yX5_pieces : Cond.selects RX5 yX5_pieces yX5_pieces ∈ wsL_law := kr_26 _ (List.mem_of_getElem? (i := 9) rfl)
theorem kc_yX5_pieces : Cond.code yX5_pieces cX5_pieces 7 (some .int) ∈ wsL_law := kr_26 _ (List.mem_of_getElem? (i := 10) rfl)
theorem km_RL_76 : Cond.methodLink RL 76 yX6_pieces ∈ wsL_law := kr_26 _ (List.mem_of_getElem? (i := 11) rfl)
theorem ki_yX6_pieces : Cond.instanceMethod yX6_pieces ∈ wsL_law := kr_26 _ (List.mem_of_getElem? (i := 12) rfl)
theorem ks_yX6_pieces : Cond.selects RX6 yX6_pieces yX6_pieces ∈ wsL_law := kr_26 _ (List.mem_of_getElem? (i := 13) rfl)
theorem kc_yX6_pieces : Cond.code yX6_pieces cX6_pieces 7 (some .int) ∈ wsL_law := kr_26 _ (List.mem_of_getElem? (i := 14) rfl)
theorem kk_RX6_226 : Cond.constantLong RX6 226 (lI 10) ∈ wsL_law := (show (10 : Int64) = lI 10 by decide) ▸ kr_26 _ (List.mem_of_getElem? (i := 15) rfl)
theorem kk_RX6_228 : Cond.constantLong RX6 228 (lI 20) ∈ wsL_law := (show (20 : Int64) = lI 20 by decide) ▸ kr_26 _ (List.mem_of_getElem? (i := 16) rfl)
theorem km_RL_77 : Cond.methodLink RL 77 yX5_search ∈ wsL_law := kr_26 _ (List.mem_of_getElem? (i := 17) rfl)
theorem ki_yX5_search : Cond.instanceMethod yX5_search ∈ wsL_law := kr_26 _ (List.mem_of_getElem? (i := 18) rfl)
theorem ks_yX5_search : Cond.selects RX5 yX5_search yX5_search ∈ wsL_law := kr_26 _ (List.mem_of_getElem? (i := 19) rfl)
theorem kc_yX5_search : Cond.code yX5_search cX5_search 5 (some .int) ∈ wsL_law := kr_26 _ (List.mem_of_getElem? (i := 20) rfl)
theorem km_RL_80 : Cond.methodLink RL 80 yX6_search ∈ wsL_law := kr_26 _ (List.mem_of_getElem? (i := 21) rfl)
theorem ki_yX6_search : Cond.instanceMethod yX6_search ∈ wsL_law := kr_26 _ (List.mem_of_getElem? (i := 22) rfl)
theorem ks_yX6_search : Cond.selects RX6 yX6_search yX6_search ∈ wsL_law := kr_26 _ (List.mem_of_getElem? (i := 23) rfl)
theorem kc_yX6_search : Cond.code yX6_search cX6_search 4 (some .int) ∈ wsL_law := kr_27 _ (List.mem_of_getElem? (i := 0) rfl)
theorem km_RL_81 : Cond.methodLink RL 81 yX5_metric ∈ wsL_law := kr_27 _ (List.mem_of_getElem? (i := 1) rfl)
theorem ki_yX5_metric : Cond.instanceMethod yX5_metric ∈ wsL_law := kr_27 _ (List.mem_of_getElem? (i := 2) rfl)
theorem ks_yX5_metric : Cond.selects RX5 yX5_metric yX5_metric ∈ wsL_law := kr_27 _ (List.mem_of_getElem? (i := 3) rfl)
theorem kc_yX5_metric : Cond.code yX5_metric cX5_metric 3 (some .int) ∈ wsL_law := kr_27 _ (List.mem_of_getElem? (i := 4) rfl)
theorem km_RL_84 : Cond.methodLink RL 84 yX6_metric ∈ wsL_law := kr_27 _ (List.mem_of_getElem? (i := 5) rfl)
theorem ki_yX6_metric : Cond.instanceMethod yX6_metric ∈ wsL_law := kr_27 _ (List.mem_of_getElem? (i := 6) rfl)
theorem ks_yX6_metric : Cond.selects RX6 yX6_metric yX6_metric ∈ wsL_law := kr_27 _ (List.mem_of_getElem? (i := 7) rfl)
theorem kc_yX6_metric : Cond.code yX6_metric cX6_metric 2 (some .int) ∈ wsL_law := kr_27 _ (List.mem_of_getElem? (i := 8) rfl)
theorem km_RL_85 : Cond.methodLink RL 85 yX5_drift ∈ wsL_law := kr_27 _ (List.mem_of_getElem? (i := 9) rfl)
theorem ki_yX5_drift : Cond.instanceMethod yX5_drift ∈ wsL_law := kr_27 _ (List.mem_of_getElem? (i := 10) rfl)
theorem ks_yX5_drift : Cond.selects RX5 yX5_drift yX5_drift ∈ wsL_law := kr_27 _ (List.mem_of_getElem? (i := 11) rfl)
theorem kc_yX5_drift : Cond.code yX5_drift cX5_drift 3 (some .int) ∈ wsL_law := kr_27 _ (List.mem_of_getElem? (i := 12) rfl)
theorem km_RX5_203 : Cond.methodLink RX5 203 yX5_sampleByDraws ∈ wsL_law := kr_27 _ (List.mem_of_getElem? (i := 13) rfl)
theorem ki_yX5_sampleByDraws : Cond.instanceMethod yX5_sampleByDraws ∈ wsL_law := kr_27 _ (List.mem_of_getElem? (i := 14) rfl)
theorem ks_yX5_sampleByDraws : Cond.selects RX5 yX5_sampleByDraws yX5_sampleByDraws ∈ wsL_law := kr_27 _ (List.mem_of_getElem? (i := 15) rfl)
theorem kc_yX5_sampleByDraws : Cond.code yX5_sampleByDraws cX5_sampleByDraws 4 none ∈ wsL_law := kr_27 _ (List.mem_of_getElem? (i := 16) rfl)
theorem km_RX5_252 : Cond.methodLink RX5 252 yX5_nextDraw ∈ wsL_law := kr_27 _ (List.mem_of_getElem? (i := 17) rfl)
theorem ki_yX5_nextDraw : Cond.instanceMethod yX5_nextDraw ∈ wsL_law := kr_27 _ (List.mem_of_getElem? (i := 18) rfl)
theorem ks_yX5_nextDraw : Cond.selects RX5 yX5_nextDraw yX5_nextDraw ∈ wsL_law := kr_27 _ (List.mem_of_getElem? (i := 19) rfl)
theorem kc_yX5_nextDraw : Cond.code yX5_nextDraw cX5_nextDraw 1 (some .int) ∈ wsL_law := kr_27 _ (List.mem_of_getElem? (i := 20) rfl)
theorem kk_RX5_245 : Cond.constantLong RX5 245 (lI 1103515245) ∈ wsL_law := (show (1103515245 : Int64) = lI 1103515245 by decide) ▸ kr_27 _ (List.mem_of_getElem? (i := 21) rfl)
theorem kk_RX5_247 : Cond.constantLong RX5 247 (lI 12345) ∈ wsL_law := (show (12345 : Int64) = lI 12345 by decide) ▸ kr_27 _ (List.mem_of_getElem? (i := 22) rfl)
theorem kk_RX5_249 : Cond.constantLong RX5 249 (lI 2147483647) ∈ wsL_law := (show (2147483647 : Int64) = lI 2147483647 by decide) ▸ kr_27 _ (List.mem_of_getElem? (i := 23) rfl)
theorem kk_RX5_251 : Cond.constant RX5 251 (iI 65536) ∈ wsL_law := (show (65536 : Int32) = iI 65536 by decide) ▸ kr_28 _ (List.mem_of_getElem? (i := 0) rfl)
theorem km_RL_88 : Cond.methodLink RL 88 yX6_drift ∈ wsL_law := kr_28 _ (List.mem_of_getElem? (i := 1) rfl)
theorem ki_yX6_drift : Cond.instanceMethod yX6_drift ∈ wsL_law := kr_28 _ (List.mem_of_getElem? (i := 2) rfl)
theorem ks_yX6_drift : Cond.selects RX6 yX6_drift yX6_drift ∈ wsL_law := kr_28 _ (List.mem_of_getElem? (i := 3) rfl)
theorem kc_yX6_drift : Cond.code yX6_drift cX6_drift 6 (some .int) ∈ wsL_law := kr_28 _ (List.mem_of_getElem? (i := 4) rfl)
theorem km_RX6_237 : Cond.methodLink RX6 237 yX6_draw ∈ wsL_law := kr_28 _ (List.mem_of_getElem? (i := 5) rfl)
theorem ki_yX6_draw : Cond.instanceMethod yX6_draw ∈ wsL_law := kr_28 _ (List.mem_of_getElem? (i := 6) rfl)
theorem ks_yX6_draw : Cond.selects RX6 yX6_draw yX6_draw ∈ wsL_law := kr_28 _ (List.mem_of_getElem? (i := 7) rfl)
theorem kc_yX6_draw : Cond.code yX6_draw cX6_draw 4 (some .int) ∈ wsL_law := kr_28 _ (List.mem_of_getElem? (i := 8) rfl)
theorem kk_RX6_230 : Cond.constantLong RX6 230 (lI 1103515245) ∈ wsL_law := (show (1103515245 : Int64) = lI 1103515245 by decide) ▸ kr_28 _ (List.mem_of_getElem? (i := 9) rfl)
theorem kk_RX6_232 : Cond.constantLong RX6 232 (lI 12345) ∈ wsL_law := (show (12345 : Int64) = lI 12345 by decide) ▸ kr_28 _ (List.mem_of_getElem? (i := 10) rfl)
theorem kk_RX6_234 : Cond.constantLong RX6 234 (lI 2147483648) ∈ wsL_law := (show (2147483648 : Int64) = lI 2147483648 by decide) ▸ kr_28 _ (List.mem_of_getElem? (i := 11) rfl)
theorem kk_RX6_236 : Cond.constant RX6 236 (iI 65536) ∈ wsL_law := (show (65536 : Int32) = iI 65536 by decide) ▸ kr_28 _ (List.mem_of_getElem? (i := 12) rfl)
theorem km_RL_89 : Cond.methodLink RL 89 yX5_undo ∈ wsL_law := kr_28 _ (List.mem_of_getElem? (i := 13) rfl)
theorem ki_yX5_undo : Cond.instanceMethod yX5_undo ∈ wsL_law := kr_28 _ (List.mem_of_getElem? (i := 14) rfl)
theorem ks_yX5_undo : Cond.selects RX5 yX5_undo yX5_undo ∈ wsL_law := kr_28 _ (List.mem_of_getElem? (i := 15) rfl)
theorem kc_yX5_undo : Cond.code yX5_undo cX5_undo 2 (some .int) ∈ wsL_law := kr_28 _ (List.mem_of_getElem? (i := 16) rfl)
theorem km_RX5_206 : Cond.methodLink RX5 206 yX3_bringBack ∈ wsL_law := kr_28 _ (List.mem_of_getElem? (i := 17) rfl)
theorem ki_yX3_bringBack : Cond.instanceMethod yX3_bringBack ∈ wsL_law := kr_28 _ (List.mem_of_getElem? (i := 18) rfl)
theorem ks_yX3_bringBack : Cond.selects RX3 yX3_bringBack yX3_bringBack ∈ wsL_law := kr_28 _ (List.mem_of_getElem? (i := 19) rfl)
theorem kc_yX3_bringBack : Cond.code yX3_bringBack cX3_bringBack 3 none ∈ wsL_law := kr_28 _ (List.mem_of_getElem? (i := 20) rfl)
theorem km_RX3_35 : Cond.methodLink RX3 35 yJ9_floorMod_7cf53 ∈ wsL_law := kr_28 _ (List.mem_of_getElem? (i := 21) rfl)
theorem kt_yJ9_floorMod_7cf53 : Cond.static yJ9_floorMod_7cf53 ∈ wsL_law := kr_28 _ (List.mem_of_getElem? (i := 22) rfl)
theorem kn_RJ9 : Cond.initialized RJ9 ∈ wsL_law := kr_28 _ (List.mem_of_getElem? (i := 23) rfl)
theorem kc_yJ9_floorMod_7cf53 : Cond.code yJ9_floorMod_7cf53 cJ9_floorMod_7cf53 3 (some .int) ∈ wsL_law := kr_29 _ (List.mem_of_getElem? (i := 0) rfl)
theorem km_RL_92 : Cond.methodLink RL 92 yX6_undo ∈ wsL_law := kr_29 _ (List.mem_of_getElem? (i := 1) rfl)
theorem ki_yX6_undo : Cond.instanceMethod yX6_undo ∈ wsL_law := kr_29 _ (List.mem_of_getElem? (i := 2) rfl)
theorem ks_yX6_undo : Cond.selects RX6 yX6_undo yX6_undo ∈ wsL_law := kr_29 _ (List.mem_of_getElem? (i := 3) rfl)
theorem kc_yX6_undo : Cond.code yX6_undo cX6_undo 2 (some .int) ∈ wsL_law := kr_29 _ (List.mem_of_getElem? (i := 4) rfl)
theorem kk_RX6_240 : Cond.constantLong RX6 240 (lI 16) ∈ wsL_law := (show (16 : Int64) = lI 16 by decide) ▸ kr_29 _ (List.mem_of_getElem? (i := 5) rfl)
theorem km_RL_93 : Cond.methodLink RL 93 yX5_write ∈ wsL_law := kr_29 _ (List.mem_of_getElem? (i := 6) rfl)
theorem ki_yX5_write : Cond.instanceMethod yX5_write ∈ wsL_law := kr_29 _ (List.mem_of_getElem? (i := 7) rfl)
theorem ks_yX5_write : Cond.selects RX5 yX5_write yX5_write ∈ wsL_law := kr_29 _ (List.mem_of_getElem? (i := 8) rfl)
theorem kc_yX5_write : Cond.code yX5_write cX5_write 4 (some .int) ∈ wsL_law := kr_29 _ (List.mem_of_getElem? (i := 9) rfl)
theorem km_RX5_210 : Cond.methodLink RX5 210 yX0_addEntry ∈ wsL_law := kr_29 _ (List.mem_of_getElem? (i := 10) rfl)
theorem ki_yX0_addEntry : Cond.instanceMethod yX0_addEntry ∈ wsL_law := kr_29 _ (List.mem_of_getElem? (i := 11) rfl)
theorem ks_yX0_addEntry : Cond.selects RX0 yX0_addEntry yX0_addEntry ∈ wsL_law := kr_29 _ (List.mem_of_getElem? (i := 12) rfl)
theorem kc_yX0_addEntry : Cond.code yX0_addEntry cX0_addEntry 4 none ∈ wsL_law := kr_29 _ (List.mem_of_getElem? (i := 13) rfl)
theorem kf_RX0_21 : Cond.fieldLink RX0 21 "OreBlocks$Book" "entries" "I" ∈ wsL_law := kr_29 _ (List.mem_of_getElem? (i := 14) rfl)
theorem km_RL_96 : Cond.methodLink RL 96 yX6_write ∈ wsL_law := kr_29 _ (List.mem_of_getElem? (i := 15) rfl)
theorem ki_yX6_write : Cond.instanceMethod yX6_write ∈ wsL_law := kr_29 _ (List.mem_of_getElem? (i := 16) rfl)
theorem ks_yX6_write : Cond.selects RX6 yX6_write yX6_write ∈ wsL_law := kr_29 _ (List.mem_of_getElem? (i := 17) rfl)
theorem kc_yX6_write : Cond.code yX6_write cX6_write 4 (some .int) ∈ wsL_law := kr_29 _ (List.mem_of_getElem? (i := 18) rfl)
theorem km_RL_97 : Cond.methodLink RL 97 yX5_tear ∈ wsL_law := kr_29 _ (List.mem_of_getElem? (i := 19) rfl)
theorem ki_yX5_tear : Cond.instanceMethod yX5_tear ∈ wsL_law := kr_29 _ (List.mem_of_getElem? (i := 20) rfl)
theorem ks_yX5_tear : Cond.selects RX5 yX5_tear yX5_tear ∈ wsL_law := kr_29 _ (List.mem_of_getElem? (i := 21) rfl)
theorem kc_yX5_tear : Cond.code yX5_tear cX5_tear 2 (some .int) ∈ wsL_law := kr_29 _ (List.mem_of_getElem? (i := 22) rfl)
theorem km_RL_101 : Cond.methodLink RL 101 yX6_tear ∈ wsL_law := kr_29 _ (List.mem_of_getElem? (i := 23) rfl)
theorem ki_yX6_tear : Cond.instanceMethod yX6_tear ∈ wsL_law := kr_30 _ (List.mem_of_getElem? (i := 0) rfl)
theorem ks_yX6_tear : Cond.selects RX6 yX6_tear yX6_tear ∈ wsL_law := kr_30 _ (List.mem_of_getElem? (i := 1) rfl)
theorem kc_yX6_tear : Cond.code yX6_tear cX6_tear 2 (some .int) ∈ wsL_law := kr_30 _ (List.mem_of_getElem? (i := 2) rfl)
theorem km_RL_102 : Cond.methodLink RL 102 yX5_seed ∈ wsL_law := kr_30 _ (List.mem_of_getElem? (i := 3) rfl)
theorem ki_yX5_seed : Cond.instanceMethod yX5_seed ∈ wsL_law := kr_30 _ (List.mem_of_getElem? (i := 4) rfl)
theorem ks_yX5_seed : Cond.selects RX5 yX5_seed yX5_seed ∈ wsL_law := kr_30 _ (List.mem_of_getElem? (i := 5) rfl)
theorem kc_yX5_seed : Cond.code yX5_seed cX5_seed 3 (some .int) ∈ wsL_law := kr_30 _ (List.mem_of_getElem? (i := 6) rfl)
theorem km_RL_105 : Cond.methodLink RL 105 yX6_seed ∈ wsL_law := kr_30 _ (List.mem_of_getElem? (i := 7) rfl)
theorem ki_yX6_seed : Cond.instanceMethod yX6_seed ∈ wsL_law := kr_30 _ (List.mem_of_getElem? (i := 8) rfl)
theorem ks_yX6_seed : Cond.selects RX6 yX6_seed yX6_seed ∈ wsL_law := kr_30 _ (List.mem_of_getElem? (i := 9) rfl)
theorem kc_yX6_seed : Cond.code yX6_seed cX6_seed 3 (some .int) ∈ wsL_law := kr_30 _ (List.mem_of_getElem? (i := 10) rfl)
theorem km_RL_106 : Cond.methodLink RL 106 yX5_keep ∈ wsL_law := kr_30 _ (List.mem_of_getElem? (i := 11) rfl)
theorem ki_yX5_keep : Cond.instanceMethod yX5_keep ∈ wsL_law := kr_30 _ (List.mem_of_getElem? (i := 12) rfl)
theorem ks_yX5_keep : Cond.selects RX5 yX5_keep yX5_keep ∈ wsL_law := kr_30 _ (List.mem_of_getElem? (i := 13) rfl)
theorem kc_yX5_keep : Cond.code yX5_keep cX5_keep 3 (some .int) ∈ wsL_law := kr_30 _ (List.mem_of_getElem? (i := 14) rfl)
theorem kf_RX5_213 : Cond.fieldLink RX5 213 "OreBlocks$Image" "ground" "LOreBlocks$Ground;" ∈ wsL_law := kr_30 _ (List.mem_of_getElem? (i := 15) rfl)
theorem kf_RX5_217 : Cond.fieldLink RX5 217 "OreBlocks$Image" "seed" "I" ∈ wsL_law := kr_30 _ (List.mem_of_getElem? (i := 16) rfl)
theorem kf_RX5_218 : Cond.fieldLink RX5 218 "OreBlocks$Image" "kept" "Z" ∈ wsL_law := kr_30 _ (List.mem_of_getElem? (i := 17) rfl)
theorem km_RX5_214 : Cond.methodLink RX5 214 yX2_become ∈ wsL_law := kr_30 _ (List.mem_of_getElem? (i := 18) rfl)
theorem km_RX5_220 : Cond.methodLink RX5 220 yX3_forget ∈ wsL_law := kr_30 _ (List.mem_of_getElem? (i := 19) rfl)
theorem ki_yX3_forget : Cond.instanceMethod yX3_forget ∈ wsL_law := kr_30 _ (List.mem_of_getElem? (i := 20) rfl)
theorem ks_yX3_forget : Cond.selects RX3 yX3_forget yX3_forget ∈ wsL_law := kr_30 _ (List.mem_of_getElem? (i := 21) rfl)
theorem kc_yX3_forget : Cond.code yX3_forget cX3_forget 1 none ∈ wsL_law := kr_30 _ (List.mem_of_getElem? (i := 22) rfl)
theorem km_RL_109 : Cond.methodLink RL 109 yX6_keep ∈ wsL_law := kr_30 _ (List.mem_of_getElem? (i := 23) rfl)
theorem ki_yX6_keep : Cond.instanceMethod yX6_keep ∈ wsL_law := kr_31 _ (List.mem_of_getElem? (i := 0) rfl)
theorem ks_yX6_keep : Cond.selects RX6 yX6_keep yX6_keep ∈ wsL_law := kr_31 _ (List.mem_of_getElem? (i := 1) rfl)
theorem kc_yX6_keep : Cond.code yX6_keep cX6_keep 2 (some .int) ∈ wsL_law := kr_31 _ (List.mem_of_getElem? (i := 2) rfl)
theorem kf_RX6_242 : Cond.fieldLink RX6 242 "OreBlocksModel" "kept" "I" ∈ wsL_law := kr_31 _ (List.mem_of_getElem? (i := 3) rfl)
theorem km_RL_110 : Cond.methodLink RL 110 yX5_goBack ∈ wsL_law := kr_31 _ (List.mem_of_getElem? (i := 4) rfl)
theorem ki_yX5_goBack : Cond.instanceMethod yX5_goBack ∈ wsL_law := kr_31 _ (List.mem_of_getElem? (i := 5) rfl)
theorem ks_yX5_goBack : Cond.selects RX5 yX5_goBack yX5_goBack ∈ wsL_law := kr_31 _ (List.mem_of_getElem? (i := 6) rfl)
theorem kc_yX5_goBack : Cond.code yX5_goBack cX5_goBack 3 (some .int) ∈ wsL_law := kr_31 _ (List.mem_of_getElem? (i := 7) rfl)
theorem km_RL_113 : Cond.methodLink RL 113 yX6_goBack ∈ wsL_law := kr_31 _ (List.mem_of_getElem? (i := 8) rfl)
theorem ki_yX6_goBack : Cond.instanceMethod yX6_goBack ∈ wsL_law := kr_31 _ (List.mem_of_getElem? (i := 9) rfl)
theorem ks_yX6_goBack : Cond.selects RX6 yX6_goBack yX6_goBack ∈ wsL_law := kr_31 _ (List.mem_of_getElem? (i := 10) rfl)
theorem kc_yX6_goBack : Cond.code yX6_goBack cX6_goBack 2 (some .int) ∈ wsL_law := kr_31 _ (List.mem_of_getElem? (i := 11) rfl)
/-! ===== what a callee's tables say ===== -/
abbrev wU (y : MethodName) (b : ByteArray) (n : Nat) (ret : Option FieldType) : List Cond := Cond.code y b n ret :: wsL_law
set_option maxRecDepth 100000 in
theorem wsL_good : wsL_law.all goodWord = true := by decide +kernel
theorem gU {y : MethodName} {b : ByteArray} {n : Nat} {ret : Option FieldType} (h : Cond.code y b n ret ∈ wsL_law) : GoodIn wsL_law (wU y b n ret) := by
  intro w hw
  rcases List.mem_cons.mp hw with rfl | hw
  · exact ⟨h, good_of_word (List.all_eq_true.mp wsL_good _ h)⟩
  · exact ⟨hw, good_of_word (List.all_eq_true.mp wsL_good _ hw)⟩
def cT (y : MethodName) (b : ByteArray) (n : Nat) (ret : Option FieldType) (k : Nat) : Prop := Cond.code y b n ret ∈ wsL_law ∧ Cond.initialized y.cls ∈ wsL_law ∧ (y.cls ≠ "java/lang/invoke/MethodHandle" ∧ y.cls ≠ "java/lang/invoke/VarHandle" ∧ (parseMethodDescriptor y.desc).map (fun d => d.parameters.length) = some k)
def cTV (y : MethodName) : Prop := Cond.instanceMethod y ∈ wsL_law ∧ Cond.selects y.cls y y ∈ wsL_law
theorem ct_yX5_init : cT yX5_init cX5_init 3 none 0 := ⟨kc_yX5_init, kn_RX5, by decide +kernel⟩
theorem ct_yX3_init : cT yX3_init cX3_init 2 none 0 := ⟨kc_yX3_init, kn_RX3, by decide +kernel⟩
theorem ct_yX2_init : cT yX2_init cX2_init 1 none 0 := ⟨kc_yX2_init, kn_RX2, by decide +kernel⟩
theorem ct_yX0_init : cT yX0_init cX0_init 1 none 0 := ⟨kc_yX0_init, kn_RX0, by decide +kernel⟩
theorem ct_yX1_init : cT yX1_init cX1_init 2 none 1 := ⟨kc_yX1_init, kn_RX1, by decide +kernel⟩
theorem ct_yX4_init : cT yX4_init cX4_init 1 none 0 := ⟨kc_yX4_init, kn_RX4, by decide +kernel⟩
theorem ct_yX6_init : cT yX6_init cX6_init 1 none 0 := ⟨kc_yX6_init, kn_RX6, by decide +kernel⟩
theorem ct_yX5_told : cT yX5_told cX5_told 2 (some .int) 1 := ⟨kc_yX5_told, kn_RX5, by decide +kernel⟩
theorem cv_yX5_told : cTV yX5_told := ⟨ki_yX5_told, ks_yX5_told⟩
theorem ct_yX5_countWithoutLeftOut : cT yX5_countWithoutLeftOut cX5_countWithoutLeftOut 3 (some .int) 0 := ⟨kc_yX5_countWithoutLeftOut, kn_RX5, by decide +kernel⟩
theorem cv_yX5_countWithoutLeftOut : cTV yX5_countWithoutLeftOut := ⟨ki_yX5_countWithoutLeftOut, ks_yX5_countWithoutLeftOut⟩
theorem ct_yX5_weighLeftOut : cT yX5_weighLeftOut cX5_weighLeftOut 2 none 1 := ⟨kc_yX5_weighLeftOut, kn_RX5, by decide +kernel⟩
theorem cv_yX5_weighLeftOut : cTV yX5_weighLeftOut := ⟨ki_yX5_weighLeftOut, ks_yX5_weighLeftOut⟩
theorem ct_yX1_weigh : cT yX1_weigh cX1_weigh 5 none 4 := ⟨kc_yX1_weigh, kn_RX1, by decide +kernel⟩
theorem cv_yX1_weigh : cTV yX1_weigh := ⟨ki_yX1_weigh, ks_yX1_weigh⟩
theorem ct_yX1_lookFrom : cT yX1_lookFrom cX1_lookFrom 7 none 3 := ⟨kc_yX1_lookFrom, kn_RX1, by decide +kernel⟩
theorem cv_yX1_lookFrom : cTV yX1_lookFrom := ⟨ki_yX1_lookFrom, ks_yX1_lookFrom⟩
theorem ct_yX2_far : cT yX2_far cX2_far 5 (some .int) 2 := ⟨kc_yX2_far, kn_RX2, by decide +kernel⟩
theorem cv_yX2_far : cTV yX2_far := ⟨ki_yX2_far, ks_yX2_far⟩
theorem ct_yX1_nearestBut : cT yX1_nearestBut cX1_nearestBut 5 (some .int) 1 := ⟨kc_yX1_nearestBut, kn_RX1, by decide +kernel⟩
theorem cv_yX1_nearestBut : cTV yX1_nearestBut := ⟨ki_yX1_nearestBut, ks_yX1_nearestBut⟩
theorem ct_yX2_quarterOf : cT yX2_quarterOf cX2_quarterOf 4 (some .int) 3 := ⟨kc_yX2_quarterOf, kn_RX2, by decide +kernel⟩
theorem cv_yX2_quarterOf : cTV yX2_quarterOf := ⟨ki_yX2_quarterOf, ks_yX2_quarterOf⟩
theorem ct_yX1_lookAt : cT yX1_lookAt cX1_lookAt 3 none 2 := ⟨kc_yX1_lookAt, kn_RX1, by decide +kernel⟩
theorem cv_yX1_lookAt : cTV yX1_lookAt := ⟨ki_yX1_lookAt, ks_yX1_lookAt⟩
theorem ct_yX1_fillBetween : cT yX1_fillBetween cX1_fillBetween 5 none 0 := ⟨kc_yX1_fillBetween, kn_RX1, by decide +kernel⟩
theorem cv_yX1_fillBetween : cTV yX1_fillBetween := ⟨ki_yX1_fillBetween, ks_yX1_fillBetween⟩
theorem ct_yX2_unlikeApart : cT yX2_unlikeApart cX2_unlikeApart 3 (some .int) 2 := ⟨kc_yX2_unlikeApart, kn_RX2, by decide +kernel⟩
theorem cv_yX2_unlikeApart : cTV yX2_unlikeApart := ⟨ki_yX2_unlikeApart, ks_yX2_unlikeApart⟩
theorem ct_yX2_unlikeOf : cT yX2_unlikeOf cX2_unlikeOf 4 (some .int) 1 := ⟨kc_yX2_unlikeOf, kn_RX2, by decide +kernel⟩
theorem cv_yX2_unlikeOf : cTV yX2_unlikeOf := ⟨ki_yX2_unlikeOf, ks_yX2_unlikeOf⟩
theorem ct_yX1_sumToPlaces : cT yX1_sumToPlaces cX1_sumToPlaces 7 none 2 := ⟨kc_yX1_sumToPlaces, kn_RX1, by decide +kernel⟩
theorem cv_yX1_sumToPlaces : cTV yX1_sumToPlaces := ⟨ki_yX1_sumToPlaces, ks_yX1_sumToPlaces⟩
theorem ct_yX1_alongX : cT yX1_alongX cX1_alongX 1 (some .int) 1 := ⟨kc_yX1_alongX, kn_RX1, by decide +kernel⟩
theorem ct_yX1_alongY : cT yX1_alongY cX1_alongY 1 (some .int) 1 := ⟨kc_yX1_alongY, kn_RX1, by decide +kernel⟩
theorem ct_yX1_sumWithinPlaces : cT yX1_sumWithinPlaces cX1_sumWithinPlaces 3 none 0 := ⟨kc_yX1_sumWithinPlaces, kn_RX1, by decide +kernel⟩
theorem cv_yX1_sumWithinPlaces : cTV yX1_sumWithinPlaces := ⟨ki_yX1_sumWithinPlaces, ks_yX1_sumWithinPlaces⟩
theorem ct_yX1_fillTable : cT yX1_fillTable cX1_fillTable 4 none 0 := ⟨kc_yX1_fillTable, kn_RX1, by decide +kernel⟩
theorem cv_yX1_fillTable : cTV yX1_fillTable := ⟨ki_yX1_fillTable, ks_yX1_fillTable⟩
theorem ct_yX1_cofactor : cT yX1_cofactor cX1_cofactor 9 (some .long) 2 := ⟨kc_yX1_cofactor, kn_RX1, by decide +kernel⟩
theorem cv_yX1_cofactor : cTV yX1_cofactor := ⟨ki_yX1_cofactor, ks_yX1_cofactor⟩
theorem ct_yX1_share : cT yX1_share cX1_share 4 none 0 := ⟨kc_yX1_share, kn_RX1, by decide +kernel⟩
theorem cv_yX1_share : cTV yX1_share := ⟨ki_yX1_share, ks_yX1_share⟩
theorem ct_yX1_turnSigns : cT yX1_turnSigns cX1_turnSigns 2 none 0 := ⟨kc_yX1_turnSigns, kn_RX1, by decide +kernel⟩
theorem cv_yX1_turnSigns : cTV yX1_turnSigns := ⟨ki_yX1_turnSigns, ks_yX1_turnSigns⟩
theorem ct_yX1_exists : cT yX1_exists cX1_exists 1 (some .boolean) 0 := ⟨kc_yX1_exists, kn_RX1, by decide +kernel⟩
theorem cv_yX1_exists : cTV yX1_exists := ⟨ki_yX1_exists, ks_yX1_exists⟩
theorem ct_yX5_farthestError : cT yX5_farthestError cX5_farthestError 11 (some .int) 0 := ⟨kc_yX5_farthestError, kn_RX5, by decide +kernel⟩
theorem cv_yX5_farthestError : cTV yX5_farthestError := ⟨ki_yX5_farthestError, ks_yX5_farthestError⟩
theorem ct_yX5_errorAbove : cT yX5_errorAbove cX5_errorAbove 2 (some .long) 1 := ⟨kc_yX5_errorAbove, kn_RX5, by decide +kernel⟩
theorem cv_yX5_errorAbove : cTV yX5_errorAbove := ⟨ki_yX5_errorAbove, ks_yX5_errorAbove⟩
theorem ct_yX1_gradeAbove : cT yX1_gradeAbove cX1_gradeAbove 4 (some .long) 0 := ⟨kc_yX1_gradeAbove, kn_RX1, by decide +kernel⟩
theorem cv_yX1_gradeAbove : cTV yX1_gradeAbove := ⟨ki_yX1_gradeAbove, ks_yX1_gradeAbove⟩
theorem ct_yX1_below : cT yX1_below cX1_below 1 (some .long) 0 := ⟨kc_yX1_below, kn_RX1, by decide +kernel⟩
theorem cv_yX1_below : cTV yX1_below := ⟨ki_yX1_below, ks_yX1_below⟩
theorem ct_yX5_isMore : cT yX5_isMore cX5_isMore 8 (some .boolean) 4 := ⟨kc_yX5_isMore, kn_RX5, by decide +kernel⟩
theorem ct_yX5_firstWrong : cT yX5_firstWrong cX5_firstWrong 4 (some .int) 0 := ⟨kc_yX5_firstWrong, kn_RX5, by decide +kernel⟩
theorem cv_yX5_firstWrong : cTV yX5_firstWrong := ⟨ki_yX5_firstWrong, ks_yX5_firstWrong⟩
theorem ct_yX1_gradeCut : cT yX1_gradeCut cX1_gradeCut 3 (some .long) 0 := ⟨kc_yX1_gradeCut, kn_RX1, by decide +kernel⟩
theorem cv_yX1_gradeCut : cTV yX1_gradeCut := ⟨ki_yX1_gradeCut, ks_yX1_gradeCut⟩
theorem ct_yX6_told : cT yX6_told cX6_told 2 (some .int) 1 := ⟨kc_yX6_told, kn_RX6, by decide +kernel⟩
theorem cv_yX6_told : cTV yX6_told := ⟨ki_yX6_told, ks_yX6_told⟩
theorem ct_yX6_in : cT yX6_in cX6_in 6 (some .boolean) 3 := ⟨kc_yX6_in, kn_RX6, by decide +kernel⟩
theorem ct_yX6_withoutGuess : cT yX6_withoutGuess cX6_withoutGuess 3 (some .int) 0 := ⟨kc_yX6_withoutGuess, kn_RX6, by decide +kernel⟩
theorem cv_yX6_withoutGuess : cTV yX6_withoutGuess := ⟨ki_yX6_withoutGuess, ks_yX6_withoutGuess⟩
theorem ct_yX6_leftOut : cT yX6_leftOut cX6_leftOut 3 (some .boolean) 1 := ⟨kc_yX6_leftOut, kn_RX6, by decide +kernel⟩
theorem cv_yX6_leftOut : cTV yX6_leftOut := ⟨ki_yX6_leftOut, ks_yX6_leftOut⟩
theorem ct_yX6_slot : cT yX6_slot cX6_slot 1 (some .int) 1 := ⟨kc_yX6_slot, kn_RX6, by decide +kernel⟩
theorem ct_yX6_guessAt : cT yX6_guessAt cX6_guessAt 5 (some .boolean) 3 := ⟨kc_yX6_guessAt, kn_RX6, by decide +kernel⟩
theorem cv_yX6_guessAt : cTV yX6_guessAt := ⟨ki_yX6_guessAt, ks_yX6_guessAt⟩
theorem ct_yX6_layLooked : cT yX6_layLooked cX6_layLooked 6 none 3 := ⟨kc_yX6_layLooked, kn_RX6, by decide +kernel⟩
theorem cv_yX6_layLooked : cTV yX6_layLooked := ⟨ki_yX6_layLooked, ks_yX6_layLooked⟩
theorem ct_yX6_far : cT yX6_far cX6_far 7 (some .int) 4 := ⟨kc_yX6_far, kn_RX6, by decide +kernel⟩
theorem cv_yX6_far : cTV yX6_far := ⟨ki_yX6_far, ks_yX6_far⟩
theorem ct_yX6_lookAt : cT yX6_lookAt cX6_lookAt 5 none 3 := ⟨kc_yX6_lookAt, kn_RX6, by decide +kernel⟩
theorem cv_yX6_lookAt : cTV yX6_lookAt := ⟨ki_yX6_lookAt, ks_yX6_lookAt⟩
theorem ct_yX6_quarterOf : cT yX6_quarterOf cX6_quarterOf 6 (some .int) 3 := ⟨kc_yX6_quarterOf, kn_RX6, by decide +kernel⟩
theorem cv_yX6_quarterOf : cTV yX6_quarterOf := ⟨ki_yX6_quarterOf, ks_yX6_quarterOf⟩
theorem ct_yX6_unlikeTo : cT yX6_unlikeTo cX6_unlikeTo 4 (some .int) 3 := ⟨kc_yX6_unlikeTo, kn_RX6, by decide +kernel⟩
theorem cv_yX6_unlikeTo : cTV yX6_unlikeTo := ⟨ki_yX6_unlikeTo, ks_yX6_unlikeTo⟩
theorem ct_yX6_unlikeOf : cT yX6_unlikeOf cX6_unlikeOf 4 (some .int) 1 := ⟨kc_yX6_unlikeOf, kn_RX6, by decide +kernel⟩
theorem cv_yX6_unlikeOf : cTV yX6_unlikeOf := ⟨ki_yX6_unlikeOf, ks_yX6_unlikeOf⟩
theorem ct_yX6_solved : cT yX6_solved cX6_solved 2 (some .boolean) 0 := ⟨kc_yX6_solved, kn_RX6, by decide +kernel⟩
theorem cv_yX6_solved : cTV yX6_solved := ⟨ki_yX6_solved, ks_yX6_solved⟩
theorem ct_yX6_layTable : cT yX6_layTable cX6_layTable 6 none 1 := ⟨kc_yX6_layTable, kn_RX6, by decide +kernel⟩
theorem cv_yX6_layTable : cTV yX6_layTable := ⟨ki_yX6_layTable, ks_yX6_layTable⟩
theorem ct_yX6_determinant : cT yX6_determinant cX6_determinant 12 (some .long) 2 := ⟨kc_yX6_determinant, kn_RX6, by decide +kernel⟩
theorem cv_yX6_determinant : cTV yX6_determinant := ⟨ki_yX6_determinant, ks_yX6_determinant⟩
theorem ct_yX6_greaterIn : cT yX6_greaterIn cX6_greaterIn 4 (some .int) 2 := ⟨kc_yX6_greaterIn, kn_RX6, by decide +kernel⟩
theorem ct_yX6_layGrade : cT yX6_layGrade cX6_layGrade 4 none 0 := ⟨kc_yX6_layGrade, kn_RX6, by decide +kernel⟩
theorem cv_yX6_layGrade : cTV yX6_layGrade := ⟨ki_yX6_layGrade, ks_yX6_layGrade⟩
theorem ct_yX6_reduce : cT yX6_reduce cX6_reduce 11 none 2 := ⟨kc_yX6_reduce, kn_RX6, by decide +kernel⟩
theorem cv_yX6_reduce : cTV yX6_reduce := ⟨ki_yX6_reduce, ks_yX6_reduce⟩
theorem ct_yX6_size : cT yX6_size cX6_size 2 (some .long) 1 := ⟨kc_yX6_size, kn_RX6, by decide +kernel⟩
theorem ct_yX6_farthestOff : cT yX6_farthestOff cX6_farthestOff 7 (some .int) 0 := ⟨kc_yX6_farthestOff, kn_RX6, by decide +kernel⟩
theorem cv_yX6_farthestOff : cTV yX6_farthestOff := ⟨ki_yX6_farthestOff, ks_yX6_farthestOff⟩
theorem ct_yX6_isMore : cT yX6_isMore cX6_isMore 26 (some .boolean) 4 := ⟨kc_yX6_isMore, kn_RX6, by decide +kernel⟩
theorem ct_yX6_wrongEntry : cT yX6_wrongEntry cX6_wrongEntry 2 (some .int) 0 := ⟨kc_yX6_wrongEntry, kn_RX6, by decide +kernel⟩
theorem cv_yX6_wrongEntry : cTV yX6_wrongEntry := ⟨ki_yX6_wrongEntry, ks_yX6_wrongEntry⟩
theorem ct_yX6_cutAt : cT yX6_cutAt cX6_cutAt 3 (some .long) 2 := ⟨kc_yX6_cutAt, kn_RX6, by decide +kernel⟩
theorem cv_yX6_cutAt : cTV yX6_cutAt := ⟨ki_yX6_cutAt, ks_yX6_cutAt⟩
theorem ct_yX5_at : cT yX5_at cX5_at 3 (some .int) 2 := ⟨kc_yX5_at, kn_RX5, by decide +kernel⟩
theorem cv_yX5_at : cTV yX5_at := ⟨ki_yX5_at, ks_yX5_at⟩
theorem ct_yX5_isSample : cT yX5_isSample cX5_isSample 2 (some .boolean) 1 := ⟨kc_yX5_isSample, kn_RX5, by decide +kernel⟩
theorem cv_yX5_isSample : cTV yX5_isSample := ⟨ki_yX5_isSample, ks_yX5_isSample⟩
theorem ct_yX5_isWithin : cT yX5_isWithin cX5_isWithin 3 (some .boolean) 3 := ⟨kc_yX5_isWithin, kn_RX5, by decide +kernel⟩
theorem ct_yX6_at : cT yX6_at cX6_at 3 (some .int) 2 := ⟨kc_yX6_at, kn_RX6, by decide +kernel⟩
theorem cv_yX6_at : cTV yX6_at := ⟨ki_yX6_at, ks_yX6_at⟩
theorem ct_yX6_isSample : cT yX6_isSample cX6_isSample 2 (some .boolean) 1 := ⟨kc_yX6_isSample, kn_RX6, by decide +kernel⟩
theorem cv_yX6_isSample : cTV yX6_isSample := ⟨ki_yX6_isSample, ks_yX6_isSample⟩
theorem ct_yX5_unlike : cT yX5_unlike cX5_unlike 2 (some .int) 1 := ⟨kc_yX5_unlike, kn_RX5, by decide +kernel⟩
theorem cv_yX5_unlike : cTV yX5_unlike := ⟨ki_yX5_unlike, ks_yX5_unlike⟩
theorem ct_yX6_unlike : cT yX6_unlike cX6_unlike 2 (some .int) 1 := ⟨kc_yX6_unlike, kn_RX6, by decide +kernel⟩
theorem cv_yX6_unlike : cTV yX6_unlike := ⟨ki_yX6_unlike, ks_yX6_unlike⟩
theorem ct_yX5_place : cT yX5_place cX5_place 4 (some .int) 3 := ⟨kc_yX5_place, kn_RX5, by decide +kernel⟩
theorem cv_yX5_place : cTV yX5_place := ⟨ki_yX5_place, ks_yX5_place⟩
theorem ct_yX5_isPlace : cT yX5_isPlace cX5_isPlace 2 (some .boolean) 2 := ⟨kc_yX5_isPlace, kn_RX5, by decide +kernel⟩
theorem ct_yX2_sampleAt : cT yX2_sampleAt cX2_sampleAt 4 (some .int) 2 := ⟨kc_yX2_sampleAt, kn_RX2, by decide +kernel⟩
theorem cv_yX2_sampleAt : cTV yX2_sampleAt := ⟨ki_yX2_sampleAt, ks_yX2_sampleAt⟩
theorem ct_yX1_setOfLooked : cT yX1_setOfLooked cX1_setOfLooked 3 (some .int) 0 := ⟨kc_yX1_setOfLooked, kn_RX1, by decide +kernel⟩
theorem cv_yX1_setOfLooked : cTV yX1_setOfLooked := ⟨ki_yX1_setOfLooked, ks_yX1_setOfLooked⟩
theorem ct_yX1_setBelowNothing : cT yX1_setBelowNothing cX1_setBelowNothing 3 (some .int) 0 := ⟨kc_yX1_setBelowNothing, kn_RX1, by decide +kernel⟩
theorem cv_yX1_setBelowNothing : cTV yX1_setBelowNothing := ⟨ki_yX1_setBelowNothing, ks_yX1_setBelowNothing⟩
theorem ct_yX6_place : cT yX6_place cX6_place 5 (some .int) 3 := ⟨kc_yX6_place, kn_RX6, by decide +kernel⟩
theorem cv_yX6_place : cTV yX6_place := ⟨ki_yX6_place, ks_yX6_place⟩
theorem ct_yX6_isPlace : cT yX6_isPlace cX6_isPlace 2 (some .boolean) 2 := ⟨kc_yX6_isPlace, kn_RX6, by decide +kernel⟩
theorem ct_yX6_there : cT yX6_there cX6_there 4 (some .int) 2 := ⟨kc_yX6_there, kn_RX6, by decide +kernel⟩
theorem cv_yX6_there : cTV yX6_there := ⟨ki_yX6_there, ks_yX6_there⟩
theorem ct_yX6_looks : cT yX6_looks cX6_looks 3 (some .int) 0 := ⟨kc_yX6_looks, kn_RX6, by decide +kernel⟩
theorem cv_yX6_looks : cTV yX6_looks := ⟨ki_yX6_looks, ks_yX6_looks⟩
theorem ct_yX6_isSound : cT yX6_isSound cX6_isSound 5 (some .boolean) 0 := ⟨kc_yX6_isSound, kn_RX6, by decide +kernel⟩
theorem cv_yX6_isSound : cTV yX6_isSound := ⟨ki_yX6_isSound, ks_yX6_isSound⟩
theorem ct_yX6_negatives : cT yX6_negatives cX6_negatives 3 (some .int) 0 := ⟨kc_yX6_negatives, kn_RX6, by decide +kernel⟩
theorem cv_yX6_negatives : cTV yX6_negatives := ⟨ki_yX6_negatives, ks_yX6_negatives⟩
theorem ct_yX5_looked : cT yX5_looked cX5_looked 4 (some .int) 3 := ⟨kc_yX5_looked, kn_RX5, by decide +kernel⟩
theorem cv_yX5_looked : cTV yX5_looked := ⟨ki_yX5_looked, ks_yX5_looked⟩
theorem ct_yX6_looked : cT yX6_looked cX6_looked 4 (some .int) 3 := ⟨kc_yX6_looked, kn_RX6, by decide +kernel⟩
theorem cv_yX6_looked : cTV yX6_looked := ⟨ki_yX6_looked, ks_yX6_looked⟩
theorem ct_yX5_guess : cT yX5_guess cX5_guess 4 (some .long) 3 := ⟨kc_yX5_guess, kn_RX5, by decide +kernel⟩
theorem cv_yX5_guess : cTV yX5_guess := ⟨ki_yX5_guess, ks_yX5_guess⟩
theorem ct_yX1_tellPart : cT yX1_tellPart cX1_tellPart 3 (some .long) 1 := ⟨kc_yX1_tellPart, kn_RX1, by decide +kernel⟩
theorem cv_yX1_tellPart : cTV yX1_tellPart := ⟨ki_yX1_tellPart, ks_yX1_tellPart⟩
theorem ct_yX5_inLowestTerms : cT yX5_inLowestTerms cX5_inLowestTerms 7 (some .long) 3 := ⟨kc_yX5_inLowestTerms, kn_RX5, by decide +kernel⟩
theorem ct_yX5_commonDivisor : cT yX5_commonDivisor cX5_commonDivisor 11 (some .long) 2 := ⟨kc_yX5_commonDivisor, kn_RX5, by decide +kernel⟩
theorem ct_yX1_spreadAbove : cT yX1_spreadAbove cX1_spreadAbove 4 (some .long) 0 := ⟨kc_yX1_spreadAbove, kn_RX1, by decide +kernel⟩
theorem cv_yX1_spreadAbove : cTV yX1_spreadAbove := ⟨ki_yX1_spreadAbove, ks_yX1_spreadAbove⟩
theorem ct_yX1_floorAbove : cT yX1_floorAbove cX1_floorAbove 4 (some .long) 0 := ⟨kc_yX1_floorAbove, kn_RX1, by decide +kernel⟩
theorem cv_yX1_floorAbove : cTV yX1_floorAbove := ⟨ki_yX1_floorAbove, ks_yX1_floorAbove⟩
theorem ct_yX1_spreadBelow : cT yX1_spreadBelow cX1_spreadBelow 1 (some .long) 0 := ⟨kc_yX1_spreadBelow, kn_RX1, by decide +kernel⟩
theorem cv_yX1_spreadBelow : cTV yX1_spreadBelow := ⟨ki_yX1_spreadBelow, ks_yX1_spreadBelow⟩
theorem ct_yX6_guess : cT yX6_guess cX6_guess 4 (some .long) 3 := ⟨kc_yX6_guess, kn_RX6, by decide +kernel⟩
theorem cv_yX6_guess : cTV yX6_guess := ⟨ki_yX6_guess, ks_yX6_guess⟩
theorem ct_yX6_laySpread : cT yX6_laySpread cX6_laySpread 6 none 1 := ⟨kc_yX6_laySpread, kn_RX6, by decide +kernel⟩
theorem cv_yX6_laySpread : cTV yX6_laySpread := ⟨ki_yX6_laySpread, ks_yX6_laySpread⟩
theorem ct_yX5_weight : cT yX5_weight cX5_weight 5 (some .long) 4 := ⟨kc_yX5_weight, kn_RX5, by decide +kernel⟩
theorem cv_yX5_weight : cTV yX5_weight := ⟨ki_yX5_weight, ks_yX5_weight⟩
theorem ct_yX6_weight : cT yX6_weight cX6_weight 5 (some .long) 4 := ⟨kc_yX6_weight, kn_RX6, by decide +kernel⟩
theorem cv_yX6_weight : cTV yX6_weight := ⟨ki_yX6_weight, ks_yX6_weight⟩
theorem ct_yX5_block : cT yX5_block cX5_block 4 (some .long) 3 := ⟨kc_yX5_block, kn_RX5, by decide +kernel⟩
theorem cv_yX5_block : cTV yX5_block := ⟨ki_yX5_block, ks_yX5_block⟩
theorem ct_yX6_block : cT yX6_block cX6_block 4 (some .long) 3 := ⟨kc_yX6_block, kn_RX6, by decide +kernel⟩
theorem cv_yX6_block : cTV yX6_block := ⟨ki_yX6_block, ks_yX6_block⟩
theorem ct_yX6_guessBlock : cT yX6_guessBlock cX6_guessBlock 5 (some .boolean) 2 := ⟨kc_yX6_guessBlock, kn_RX6, by decide +kernel⟩
theorem cv_yX6_guessBlock : cTV yX6_guessBlock := ⟨ki_yX6_guessBlock, ks_yX6_guessBlock⟩
theorem ct_yX6_inner : cT yX6_inner cX6_inner 6 (some .long) 0 := ⟨kc_yX6_inner, kn_RX6, by decide +kernel⟩
theorem cv_yX6_inner : cTV yX6_inner := ⟨ki_yX6_inner, ks_yX6_inner⟩
theorem ct_yX5_error : cT yX5_error cX5_error 3 (some .long) 2 := ⟨kc_yX5_error, kn_RX5, by decide +kernel⟩
theorem cv_yX5_error : cTV yX5_error := ⟨ki_yX5_error, ks_yX5_error⟩
theorem ct_yX6_error : cT yX6_error cX6_error 3 (some .long) 2 := ⟨kc_yX6_error, kn_RX6, by decide +kernel⟩
theorem cv_yX6_error : cTV yX6_error := ⟨ki_yX6_error, ks_yX6_error⟩
theorem ct_yX5_hole : cT yX5_hole cX5_hole 5 (some .int) 4 := ⟨kc_yX5_hole, kn_RX5, by decide +kernel⟩
theorem cv_yX5_hole : cTV yX5_hole := ⟨ki_yX5_hole, ks_yX5_hole⟩
theorem ct_yX5_nextHole : cT yX5_nextHole cX5_nextHole 16 (some .int) 4 := ⟨kc_yX5_nextHole, kn_RX5, by decide +kernel⟩
theorem cv_yX5_nextHole : cTV yX5_nextHole := ⟨ki_yX5_nextHole, ks_yX5_nextHole⟩
theorem ct_yX5_weighEmptyPlace : cT yX5_weighEmptyPlace cX5_weighEmptyPlace 3 (some .boolean) 2 := ⟨kc_yX5_weighEmptyPlace, kn_RX5, by decide +kernel⟩
theorem cv_yX5_weighEmptyPlace : cTV yX5_weighEmptyPlace := ⟨ki_yX5_weighEmptyPlace, ks_yX5_weighEmptyPlace⟩
theorem ct_yX6_hole : cT yX6_hole cX6_hole 13 (some .int) 4 := ⟨kc_yX6_hole, kn_RX6, by decide +kernel⟩
theorem cv_yX6_hole : cTV yX6_hole := ⟨ki_yX6_hole, ks_yX6_hole⟩
theorem ct_yX5_sample : cT yX5_sample cX5_sample 4 (some .int) 3 := ⟨kc_yX5_sample, kn_RX5, by decide +kernel⟩
theorem cv_yX5_sample : cTV yX5_sample := ⟨ki_yX5_sample, ks_yX5_sample⟩
theorem ct_yX5_isGrade : cT yX5_isGrade cX5_isGrade 1 (some .boolean) 1 := ⟨kc_yX5_isGrade, kn_RX5, by decide +kernel⟩
theorem ct_yX3_remember : cT yX3_remember cX3_remember 2 none 1 := ⟨kc_yX3_remember, kn_RX3, by decide +kernel⟩
theorem cv_yX3_remember : cTV yX3_remember := ⟨ki_yX3_remember, ks_yX3_remember⟩
theorem ct_yX2_become : cT yX2_become cX2_become 2 none 1 := ⟨kc_yX2_become, kn_RX2, by decide +kernel⟩
theorem cv_yX2_become : cTV yX2_become := ⟨ki_yX2_become, ks_yX2_become⟩
theorem ct_yX2_addSample : cT yX2_addSample cX2_addSample 4 none 3 := ⟨kc_yX2_addSample, kn_RX2, by decide +kernel⟩
theorem cv_yX2_addSample : cTV yX2_addSample := ⟨ki_yX2_addSample, ks_yX2_addSample⟩
theorem ct_yX6_sample : cT yX6_sample cX6_sample 4 (some .int) 3 := ⟨kc_yX6_sample, kn_RX6, by decide +kernel⟩
theorem cv_yX6_sample : cTV yX6_sample := ⟨ki_yX6_sample, ks_yX6_sample⟩
theorem ct_yX6_come : cT yX6_come cX6_come 5 (some .int) 3 := ⟨kc_yX6_come, kn_RX6, by decide +kernel⟩
theorem cv_yX6_come : cTV yX6_come := ⟨ki_yX6_come, ks_yX6_come⟩
theorem ct_yX6_remember : cT yX6_remember cX6_remember 2 none 0 := ⟨kc_yX6_remember, kn_RX6, by decide +kernel⟩
theorem cv_yX6_remember : cTV yX6_remember := ⟨ki_yX6_remember, ks_yX6_remember⟩
theorem ct_yX6_copyRow : cT yX6_copyRow cX6_copyRow 4 none 2 := ⟨kc_yX6_copyRow, kn_RX6, by decide +kernel⟩
theorem cv_yX6_copyRow : cTV yX6_copyRow := ⟨ki_yX6_copyRow, ks_yX6_copyRow⟩
theorem ct_yX5_take : cT yX5_take cX5_take 2 (some .int) 1 := ⟨kc_yX5_take, kn_RX5, by decide +kernel⟩
theorem cv_yX5_take : cTV yX5_take := ⟨ki_yX5_take, ks_yX5_take⟩
theorem ct_yX2_removeSample : cT yX2_removeSample cX2_removeSample 3 none 1 := ⟨kc_yX2_removeSample, kn_RX2, by decide +kernel⟩
theorem cv_yX2_removeSample : cTV yX2_removeSample := ⟨ki_yX2_removeSample, ks_yX2_removeSample⟩
theorem ct_yX6_take : cT yX6_take cX6_take 3 (some .int) 1 := ⟨kc_yX6_take, kn_RX6, by decide +kernel⟩
theorem cv_yX6_take : cTV yX6_take := ⟨ki_yX6_take, ks_yX6_take⟩
theorem ct_yX5_grade : cT yX5_grade cX5_grade 4 (some .int) 2 := ⟨kc_yX5_grade, kn_RX5, by decide +kernel⟩
theorem cv_yX5_grade : cTV yX5_grade := ⟨ki_yX5_grade, ks_yX5_grade⟩
theorem ct_yX6_grade : cT yX6_grade cX6_grade 3 (some .int) 2 := ⟨kc_yX6_grade, kn_RX6, by decide +kernel⟩
theorem cv_yX6_grade : cTV yX6_grade := ⟨ki_yX6_grade, ks_yX6_grade⟩
theorem ct_yX6_put : cT yX6_put cX6_put 4 (some .int) 2 := ⟨kc_yX6_put, kn_RX6, by decide +kernel⟩
theorem cv_yX6_put : cTV yX6_put := ⟨ki_yX6_put, ks_yX6_put⟩
theorem ct_yX5_pieces : cT yX5_pieces cX5_pieces 7 (some .int) 5 := ⟨kc_yX5_pieces, kn_RX5, by decide +kernel⟩
theorem cv_yX5_pieces : cTV yX5_pieces := ⟨ki_yX5_pieces, ks_yX5_pieces⟩
theorem ct_yX6_pieces : cT yX6_pieces cX6_pieces 7 (some .int) 5 := ⟨kc_yX6_pieces, kn_RX6, by decide +kernel⟩
theorem cv_yX6_pieces : cTV yX6_pieces := ⟨ki_yX6_pieces, ks_yX6_pieces⟩
theorem ct_yX5_search : cT yX5_search cX5_search 5 (some .int) 3 := ⟨kc_yX5_search, kn_RX5, by decide +kernel⟩
theorem cv_yX5_search : cTV yX5_search := ⟨ki_yX5_search, ks_yX5_search⟩
theorem ct_yX6_search : cT yX6_search cX6_search 4 (some .int) 3 := ⟨kc_yX6_search, kn_RX6, by decide +kernel⟩
theorem cv_yX6_search : cTV yX6_search := ⟨ki_yX6_search, ks_yX6_search⟩
theorem ct_yX5_metric : cT yX5_metric cX5_metric 3 (some .int) 1 := ⟨kc_yX5_metric, kn_RX5, by decide +kernel⟩
theorem cv_yX5_metric : cTV yX5_metric := ⟨ki_yX5_metric, ks_yX5_metric⟩
theorem ct_yX6_metric : cT yX6_metric cX6_metric 2 (some .int) 1 := ⟨kc_yX6_metric, kn_RX6, by decide +kernel⟩
theorem cv_yX6_metric : cTV yX6_metric := ⟨ki_yX6_metric, ks_yX6_metric⟩
theorem ct_yX5_drift : cT yX5_drift cX5_drift 3 (some .int) 1 := ⟨kc_yX5_drift, kn_RX5, by decide +kernel⟩
theorem cv_yX5_drift : cTV yX5_drift := ⟨ki_yX5_drift, ks_yX5_drift⟩
theorem ct_yX5_sampleByDraws : cT yX5_sampleByDraws cX5_sampleByDraws 4 none 0 := ⟨kc_yX5_sampleByDraws, kn_RX5, by decide +kernel⟩
theorem cv_yX5_sampleByDraws : cTV yX5_sampleByDraws := ⟨ki_yX5_sampleByDraws, ks_yX5_sampleByDraws⟩
theorem ct_yX5_nextDraw : cT yX5_nextDraw cX5_nextDraw 1 (some .int) 0 := ⟨kc_yX5_nextDraw, kn_RX5, by decide +kernel⟩
theorem cv_yX5_nextDraw : cTV yX5_nextDraw := ⟨ki_yX5_nextDraw, ks_yX5_nextDraw⟩
theorem ct_yX6_drift : cT yX6_drift cX6_drift 6 (some .int) 1 := ⟨kc_yX6_drift, kn_RX6, by decide +kernel⟩
theorem cv_yX6_drift : cTV yX6_drift := ⟨ki_yX6_drift, ks_yX6_drift⟩
theorem ct_yX6_draw : cT yX6_draw cX6_draw 4 (some .int) 1 := ⟨kc_yX6_draw, kn_RX6, by decide +kernel⟩
theorem cv_yX6_draw : cTV yX6_draw := ⟨ki_yX6_draw, ks_yX6_draw⟩
theorem ct_yX5_undo : cT yX5_undo cX5_undo 2 (some .int) 1 := ⟨kc_yX5_undo, kn_RX5, by decide +kernel⟩
theorem cv_yX5_undo : cTV yX5_undo := ⟨ki_yX5_undo, ks_yX5_undo⟩
theorem ct_yX3_bringBack : cT yX3_bringBack cX3_bringBack 3 none 2 := ⟨kc_yX3_bringBack, kn_RX3, by decide +kernel⟩
theorem cv_yX3_bringBack : cTV yX3_bringBack := ⟨ki_yX3_bringBack, ks_yX3_bringBack⟩
theorem ct_yX6_undo : cT yX6_undo cX6_undo 2 (some .int) 1 := ⟨kc_yX6_undo, kn_RX6, by decide +kernel⟩
theorem cv_yX6_undo : cTV yX6_undo := ⟨ki_yX6_undo, ks_yX6_undo⟩
theorem ct_yX5_write : cT yX5_write cX5_write 4 (some .int) 3 := ⟨kc_yX5_write, kn_RX5, by decide +kernel⟩
theorem cv_yX5_write : cTV yX5_write := ⟨ki_yX5_write, ks_yX5_write⟩
theorem ct_yX0_addEntry : cT yX0_addEntry cX0_addEntry 4 none 3 := ⟨kc_yX0_addEntry, kn_RX0, by decide +kernel⟩
theorem cv_yX0_addEntry : cTV yX0_addEntry := ⟨ki_yX0_addEntry, ks_yX0_addEntry⟩
theorem ct_yX6_write : cT yX6_write cX6_write 4 (some .int) 3 := ⟨kc_yX6_write, kn_RX6, by decide +kernel⟩
theorem cv_yX6_write : cTV yX6_write := ⟨ki_yX6_write, ks_yX6_write⟩
theorem ct_yX5_tear : cT yX5_tear cX5_tear 2 (some .int) 0 := ⟨kc_yX5_tear, kn_RX5, by decide +kernel⟩
theorem cv_yX5_tear : cTV yX5_tear := ⟨ki_yX5_tear, ks_yX5_tear⟩
theorem ct_yX6_tear : cT yX6_tear cX6_tear 2 (some .int) 0 := ⟨kc_yX6_tear, kn_RX6, by decide +kernel⟩
theorem cv_yX6_tear : cTV yX6_tear := ⟨ki_yX6_tear, ks_yX6_tear⟩
theorem ct_yX5_seed : cT yX5_seed cX5_seed 3 (some .int) 1 := ⟨kc_yX5_seed, kn_RX5, by decide +kernel⟩
theorem cv_yX5_seed : cTV yX5_seed := ⟨ki_yX5_seed, ks_yX5_seed⟩
theorem ct_yX6_seed : cT yX6_seed cX6_seed 3 (some .int) 1 := ⟨kc_yX6_seed, kn_RX6, by decide +kernel⟩
theorem cv_yX6_seed : cTV yX6_seed := ⟨ki_yX6_seed, ks_yX6_seed⟩
theorem ct_yX5_keep : cT yX5_keep cX5_keep 3 (some .int) 1 := ⟨kc_yX5_keep, kn_RX5, by decide +kernel⟩
theorem cv_yX5_keep : cTV yX5_keep := ⟨ki_yX5_keep, ks_yX5_keep⟩
theorem ct_yX3_forget : cT yX3_forget cX3_forget 1 none 0 := ⟨kc_yX3_forget, kn_RX3, by decide +kernel⟩
theorem cv_yX3_forget : cTV yX3_forget := ⟨ki_yX3_forget, ks_yX3_forget⟩
theorem ct_yX6_keep : cT yX6_keep cX6_keep 2 (some .int) 1 := ⟨kc_yX6_keep, kn_RX6, by decide +kernel⟩
theorem cv_yX6_keep : cTV yX6_keep := ⟨ki_yX6_keep, ks_yX6_keep⟩
theorem ct_yX5_goBack : cT yX5_goBack cX5_goBack 3 (some .int) 1 := ⟨kc_yX5_goBack, kn_RX5, by decide +kernel⟩
theorem cv_yX5_goBack : cTV yX5_goBack := ⟨ki_yX5_goBack, ks_yX5_goBack⟩
theorem ct_yX6_goBack : cT yX6_goBack cX6_goBack 2 (some .int) 1 := ⟨kc_yX6_goBack, kn_RX6, by decide +kernel⟩
theorem cv_yX6_goBack : cTV yX6_goBack := ⟨ki_yX6_goBack, ks_yX6_goBack⟩
