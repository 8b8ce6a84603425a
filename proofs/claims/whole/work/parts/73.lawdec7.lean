theorem dL_law_2752 : decode cL_law 2752 = .ok (.aload_n 3, 1) := by decide +kernel
theorem dL_law_2753 : decode cL_law 2753 = .ok (.iconst 0, 1) := by decide +kernel
theorem dL_law_2754 : decode cL_law 2754 = .ok (.laload, 1) := by decide +kernel
theorem dL_law_2755 : decode cL_law 2755 = .ok (.iload 6, 2) := by decide +kernel
theorem dL_law_2757 : decode cL_law 2757 = .ok (.i2l, 1) := by decide +kernel
theorem dL_law_2758 : decode cL_law 2758 = .ok (.lcmp, 1) := by decide +kernel
theorem dL_law_2759 : decode cL_law 2759 = .ok (.ifCond .eq 5, 3) := by decide +kernel
theorem dL_law_2762 : decode cL_law 2762 = .ok (.iconst 0, 1) := by decide +kernel
theorem dL_law_2763 : decode cL_law 2763 = .ok (.ireturn, 1) := by decide +kernel
theorem dL_law_2764 : decode cL_law 2764 = .ok (.goto 338, 3) := by decide +kernel
theorem dL_law_2767 : decode cL_law 2767 = .ok (.aload_n 1, 1) := by decide +kernel
theorem dL_law_2768 : decode cL_law 2768 = .ok (.invokevirtual 270, 3) := by decide +kernel
theorem dL_law_2771 : decode cL_law 2771 = .ok (.aload_n 2, 1) := by decide +kernel
theorem dL_law_2772 : decode cL_law 2772 = .ok (.invokevirtual 273, 3) := by decide +kernel
theorem dL_law_2775 : decode cL_law 2775 = .ok (.if_icmp .eq 327, 3) := by decide +kernel
theorem dL_law_2778 : decode cL_law 2778 = .ok (.iconst 0, 1) := by decide +kernel
theorem dL_law_2779 : decode cL_law 2779 = .ok (.ireturn, 1) := by decide +kernel
theorem dL_law_2780 : decode cL_law 2780 = .ok (.aload_n 1, 1) := by decide +kernel
theorem dL_law_2781 : decode cL_law 2781 = .ok (.invokevirtual 274, 3) := by decide +kernel
theorem dL_law_2784 : decode cL_law 2784 = .ok (.aload_n 2, 1) := by decide +kernel
theorem dL_law_2785 : decode cL_law 2785 = .ok (.invokevirtual 277, 3) := by decide +kernel
theorem dL_law_2788 : decode cL_law 2788 = .ok (.if_icmp .eq 314, 3) := by decide +kernel
theorem dL_law_2791 : decode cL_law 2791 = .ok (.iconst 0, 1) := by decide +kernel
theorem dL_law_2792 : decode cL_law 2792 = .ok (.ireturn, 1) := by decide +kernel
theorem dL_law_2793 : decode cL_law 2793 = .ok (.aload_n 1, 1) := by decide +kernel
theorem dL_law_2794 : decode cL_law 2794 = .ok (.aload_n 0, 1) := by decide +kernel
theorem dL_law_2795 : decode cL_law 2795 = .ok (.iload 4, 2) := by decide +kernel
theorem dL_law_2797 : decode cL_law 2797 = .ok (.iconst 1, 1) := by decide +kernel
theorem dL_law_2798 : decode cL_law 2798 = .ok (.iadd, 1) := by decide +kernel
theorem dL_law_2799 : decode cL_law 2799 = .ok (.iaload, 1) := by decide +kernel
theorem dL_law_2800 : decode cL_law 2800 = .ok (.aload_n 0, 1) := by decide +kernel
theorem dL_law_2801 : decode cL_law 2801 = .ok (.iload 4, 2) := by decide +kernel
theorem dL_law_2803 : decode cL_law 2803 = .ok (.iconst 2, 1) := by decide +kernel
theorem dL_law_2804 : decode cL_law 2804 = .ok (.iadd, 1) := by decide +kernel
theorem dL_law_2805 : decode cL_law 2805 = .ok (.iaload, 1) := by decide +kernel
theorem dL_law_2806 : decode cL_law 2806 = .ok (.aload_n 0, 1) := by decide +kernel
theorem dL_law_2807 : decode cL_law 2807 = .ok (.iload 4, 2) := by decide +kernel
theorem dL_law_2809 : decode cL_law 2809 = .ok (.iconst 3, 1) := by decide +kernel
theorem dL_law_2810 : decode cL_law 2810 = .ok (.iadd, 1) := by decide +kernel
theorem dL_law_2811 : decode cL_law 2811 = .ok (.iaload, 1) := by decide +kernel
theorem dL_law_2812 : decode cL_law 2812 = .ok (.aload_n 0, 1) := by decide +kernel
theorem dL_law_2813 : decode cL_law 2813 = .ok (.iload 4, 2) := by decide +kernel
theorem dL_law_2815 : decode cL_law 2815 = .ok (.iconst 4, 1) := by decide +kernel
theorem dL_law_2816 : decode cL_law 2816 = .ok (.iadd, 1) := by decide +kernel
theorem dL_law_2817 : decode cL_law 2817 = .ok (.iaload, 1) := by decide +kernel
theorem dL_law_2818 : decode cL_law 2818 = .ok (.aload_n 3, 1) := by decide +kernel
theorem dL_law_2819 : decode cL_law 2819 = .ok (.invokestatic 278, 3) := by decide +kernel
theorem dL_law_2822 : decode cL_law 2822 = .ok (.istore 5, 2) := by decide +kernel
theorem dL_law_2824 : decode cL_law 2824 = .ok (.aload_n 2, 1) := by decide +kernel
theorem dL_law_2825 : decode cL_law 2825 = .ok (.aload_n 0, 1) := by decide +kernel
theorem dL_law_2826 : decode cL_law 2826 = .ok (.iload 4, 2) := by decide +kernel
theorem dL_law_2828 : decode cL_law 2828 = .ok (.iconst 1, 1) := by decide +kernel
theorem dL_law_2829 : decode cL_law 2829 = .ok (.iadd, 1) := by decide +kernel
theorem dL_law_2830 : decode cL_law 2830 = .ok (.iaload, 1) := by decide +kernel
theorem dL_law_2831 : decode cL_law 2831 = .ok (.aload_n 0, 1) := by decide +kernel
theorem dL_law_2832 : decode cL_law 2832 = .ok (.iload 4, 2) := by decide +kernel
theorem dL_law_2834 : decode cL_law 2834 = .ok (.iconst 2, 1) := by decide +kernel
theorem dL_law_2835 : decode cL_law 2835 = .ok (.iadd, 1) := by decide +kernel
theorem dL_law_2836 : decode cL_law 2836 = .ok (.iaload, 1) := by decide +kernel
theorem dL_law_2837 : decode cL_law 2837 = .ok (.aload_n 0, 1) := by decide +kernel
theorem dL_law_2838 : decode cL_law 2838 = .ok (.iload 4, 2) := by decide +kernel
theorem dL_law_2840 : decode cL_law 2840 = .ok (.iconst 3, 1) := by decide +kernel
theorem dL_law_2841 : decode cL_law 2841 = .ok (.iadd, 1) := by decide +kernel
theorem dL_law_2842 : decode cL_law 2842 = .ok (.iaload, 1) := by decide +kernel
theorem dL_law_2843 : decode cL_law 2843 = .ok (.aload_n 0, 1) := by decide +kernel
theorem dL_law_2844 : decode cL_law 2844 = .ok (.iload 4, 2) := by decide +kernel
theorem dL_law_2846 : decode cL_law 2846 = .ok (.iconst 4, 1) := by decide +kernel
theorem dL_law_2847 : decode cL_law 2847 = .ok (.iadd, 1) := by decide +kernel
theorem dL_law_2848 : decode cL_law 2848 = .ok (.iaload, 1) := by decide +kernel
theorem dL_law_2849 : decode cL_law 2849 = .ok (.invokevirtual 281, 3) := by decide +kernel
theorem dL_law_2852 : decode cL_law 2852 = .ok (.istore 6, 2) := by decide +kernel
theorem dL_law_2854 : decode cL_law 2854 = .ok (.aload_n 2, 1) := by decide +kernel
theorem dL_law_2855 : decode cL_law 2855 = .ok (.invokevirtual 145, 3) := by decide +kernel
theorem dL_law_2858 : decode cL_law 2858 = .ok (.iload 5, 2) := by decide +kernel
theorem dL_law_2860 : decode cL_law 2860 = .ok (.if_icmp .eq 5, 3) := by decide +kernel
theorem dL_law_2863 : decode cL_law 2863 = .ok (.iconst 0, 1) := by decide +kernel
theorem dL_law_2864 : decode cL_law 2864 = .ok (.ireturn, 1) := by decide +kernel
theorem dL_law_2865 : decode cL_law 2865 = .ok (.iload 5, 2) := by decide +kernel
theorem dL_law_2867 : decode cL_law 2867 = .ok (.ifCond .ne 15, 3) := by decide +kernel
theorem dL_law_2870 : decode cL_law 2870 = .ok (.aload_n 3, 1) := by decide +kernel
theorem dL_law_2871 : decode cL_law 2871 = .ok (.iconst 0, 1) := by decide +kernel
theorem dL_law_2872 : decode cL_law 2872 = .ok (.laload, 1) := by decide +kernel
theorem dL_law_2873 : decode cL_law 2873 = .ok (.iload 6, 2) := by decide +kernel
theorem dL_law_2875 : decode cL_law 2875 = .ok (.i2l, 1) := by decide +kernel
theorem dL_law_2876 : decode cL_law 2876 = .ok (.lcmp, 1) := by decide +kernel
theorem dL_law_2877 : decode cL_law 2877 = .ok (.ifCond .eq 5, 3) := by decide +kernel
theorem dL_law_2880 : decode cL_law 2880 = .ok (.iconst 0, 1) := by decide +kernel
theorem dL_law_2881 : decode cL_law 2881 = .ok (.ireturn, 1) := by decide +kernel
theorem dL_law_2882 : decode cL_law 2882 = .ok (.goto 220, 3) := by decide +kernel
theorem dL_law_2885 : decode cL_law 2885 = .ok (.aload_n 1, 1) := by decide +kernel
theorem dL_law_2886 : decode cL_law 2886 = .ok (.aload_n 0, 1) := by decide +kernel
theorem dL_law_2887 : decode cL_law 2887 = .ok (.iload 4, 2) := by decide +kernel
theorem dL_law_2889 : decode cL_law 2889 = .ok (.iconst 1, 1) := by decide +kernel
theorem dL_law_2890 : decode cL_law 2890 = .ok (.iadd, 1) := by decide +kernel
theorem dL_law_2891 : decode cL_law 2891 = .ok (.iaload, 1) := by decide +kernel
theorem dL_law_2892 : decode cL_law 2892 = .ok (.aload_n 0, 1) := by decide +kernel
theorem dL_law_2893 : decode cL_law 2893 = .ok (.iload 4, 2) := by decide +kernel
theorem dL_law_2895 : decode cL_law 2895 = .ok (.iconst 2, 1) := by decide +kernel
theorem dL_law_2896 : decode cL_law 2896 = .ok (.iadd, 1) := by decide +kernel
theorem dL_law_2897 : decode cL_law 2897 = .ok (.iaload, 1) := by decide +kernel
theorem dL_law_2898 : decode cL_law 2898 = .ok (.ifCond .eq 7, 3) := by decide +kernel
theorem dL_law_2901 : decode cL_law 2901 = .ok (.iconst 1, 1) := by decide +kernel
theorem dL_law_2902 : decode cL_law 2902 = .ok (.goto 4, 3) := by decide +kernel
theorem dL_law_2905 : decode cL_law 2905 = .ok (.iconst 0, 1) := by decide +kernel
theorem dL_law_2906 : decode cL_law 2906 = .ok (.invokevirtual 282, 3) := by decide +kernel
theorem dL_law_2909 : decode cL_law 2909 = .ok (.aload_n 2, 1) := by decide +kernel
theorem dL_law_2910 : decode cL_law 2910 = .ok (.aload_n 0, 1) := by decide +kernel
theorem dL_law_2911 : decode cL_law 2911 = .ok (.iload 4, 2) := by decide +kernel
theorem dL_law_2913 : decode cL_law 2913 = .ok (.iconst 1, 1) := by decide +kernel
theorem dL_law_2914 : decode cL_law 2914 = .ok (.iadd, 1) := by decide +kernel
theorem dL_law_2915 : decode cL_law 2915 = .ok (.iaload, 1) := by decide +kernel
theorem dL_law_2916 : decode cL_law 2916 = .ok (.aload_n 0, 1) := by decide +kernel
theorem dL_law_2917 : decode cL_law 2917 = .ok (.iload 4, 2) := by decide +kernel
theorem dL_law_2919 : decode cL_law 2919 = .ok (.iconst 2, 1) := by decide +kernel
theorem dL_law_2920 : decode cL_law 2920 = .ok (.iadd, 1) := by decide +kernel
theorem dL_law_2921 : decode cL_law 2921 = .ok (.iaload, 1) := by decide +kernel
theorem dL_law_2922 : decode cL_law 2922 = .ok (.ifCond .eq 7, 3) := by decide +kernel
theorem dL_law_2925 : decode cL_law 2925 = .ok (.iconst 1, 1) := by decide +kernel
theorem dL_law_2926 : decode cL_law 2926 = .ok (.goto 4, 3) := by decide +kernel
theorem dL_law_2929 : decode cL_law 2929 = .ok (.iconst 0, 1) := by decide +kernel
theorem dL_law_2930 : decode cL_law 2930 = .ok (.invokevirtual 286, 3) := by decide +kernel
theorem dL_law_2933 : decode cL_law 2933 = .ok (.if_icmp .eq 169, 3) := by decide +kernel
theorem dL_law_2936 : decode cL_law 2936 = .ok (.iconst 0, 1) := by decide +kernel
theorem dL_law_2937 : decode cL_law 2937 = .ok (.ireturn, 1) := by decide +kernel
theorem dL_law_2938 : decode cL_law 2938 = .ok (.aload_n 1, 1) := by decide +kernel
theorem dL_law_2939 : decode cL_law 2939 = .ok (.invokevirtual 287, 3) := by decide +kernel
theorem dL_law_2942 : decode cL_law 2942 = .ok (.aload_n 2, 1) := by decide +kernel
theorem dL_law_2943 : decode cL_law 2943 = .ok (.invokevirtual 290, 3) := by decide +kernel
theorem dL_law_2946 : decode cL_law 2946 = .ok (.if_icmp .eq 156, 3) := by decide +kernel
theorem dL_law_2949 : decode cL_law 2949 = .ok (.iconst 0, 1) := by decide +kernel
theorem dL_law_2950 : decode cL_law 2950 = .ok (.ireturn, 1) := by decide +kernel
theorem dL_law_2951 : decode cL_law 2951 = .ok (.aload_n 1, 1) := by decide +kernel
theorem dL_law_2952 : decode cL_law 2952 = .ok (.aload_n 3, 1) := by decide +kernel
theorem dL_law_2953 : decode cL_law 2953 = .ok (.invokestatic 291, 3) := by decide +kernel
theorem dL_law_2956 : decode cL_law 2956 = .ok (.istore 5, 2) := by decide +kernel
theorem dL_law_2958 : decode cL_law 2958 = .ok (.aload_n 2, 1) := by decide +kernel
theorem dL_law_2959 : decode cL_law 2959 = .ok (.invokevirtual 293, 3) := by decide +kernel
theorem dL_law_2962 : decode cL_law 2962 = .ok (.istore 6, 2) := by decide +kernel
theorem dL_law_2964 : decode cL_law 2964 = .ok (.aload_n 2, 1) := by decide +kernel
theorem dL_law_2965 : decode cL_law 2965 = .ok (.invokevirtual 145, 3) := by decide +kernel
theorem dL_law_2968 : decode cL_law 2968 = .ok (.iload 5, 2) := by decide +kernel
theorem dL_law_2970 : decode cL_law 2970 = .ok (.if_icmp .eq 5, 3) := by decide +kernel
theorem dL_law_2973 : decode cL_law 2973 = .ok (.iconst 0, 1) := by decide +kernel
theorem dL_law_2974 : decode cL_law 2974 = .ok (.ireturn, 1) := by decide +kernel
theorem dL_law_2975 : decode cL_law 2975 = .ok (.iload 5, 2) := by decide +kernel
theorem dL_law_2977 : decode cL_law 2977 = .ok (.ifCond .ne 15, 3) := by decide +kernel
theorem dL_law_2980 : decode cL_law 2980 = .ok (.aload_n 3, 1) := by decide +kernel
theorem dL_law_2981 : decode cL_law 2981 = .ok (.iconst 0, 1) := by decide +kernel
theorem dL_law_2982 : decode cL_law 2982 = .ok (.laload, 1) := by decide +kernel
theorem dL_law_2983 : decode cL_law 2983 = .ok (.iload 6, 2) := by decide +kernel
theorem dL_law_2985 : decode cL_law 2985 = .ok (.i2l, 1) := by decide +kernel
theorem dL_law_2986 : decode cL_law 2986 = .ok (.lcmp, 1) := by decide +kernel
theorem dL_law_2987 : decode cL_law 2987 = .ok (.ifCond .eq 5, 3) := by decide +kernel
theorem dL_law_2990 : decode cL_law 2990 = .ok (.iconst 0, 1) := by decide +kernel
theorem dL_law_2991 : decode cL_law 2991 = .ok (.ireturn, 1) := by decide +kernel
theorem dL_law_2992 : decode cL_law 2992 = .ok (.goto 110, 3) := by decide +kernel
theorem dL_law_2995 : decode cL_law 2995 = .ok (.aload_n 1, 1) := by decide +kernel
theorem dL_law_2996 : decode cL_law 2996 = .ok (.aload_n 3, 1) := by decide +kernel
theorem dL_law_2997 : decode cL_law 2997 = .ok (.invokestatic 294, 3) := by decide +kernel
theorem dL_law_3000 : decode cL_law 3000 = .ok (.istore 5, 2) := by decide +kernel
theorem dL_law_3002 : decode cL_law 3002 = .ok (.aload_n 2, 1) := by decide +kernel
theorem dL_law_3003 : decode cL_law 3003 = .ok (.invokevirtual 296, 3) := by decide +kernel
theorem dL_law_3006 : decode cL_law 3006 = .ok (.istore 6, 2) := by decide +kernel
theorem dL_law_3008 : decode cL_law 3008 = .ok (.aload_n 2, 1) := by decide +kernel
theorem dL_law_3009 : decode cL_law 3009 = .ok (.invokevirtual 145, 3) := by decide +kernel
theorem dL_law_3012 : decode cL_law 3012 = .ok (.iload 5, 2) := by decide +kernel
theorem dL_law_3014 : decode cL_law 3014 = .ok (.if_icmp .eq 5, 3) := by decide +kernel
theorem dL_law_3017 : decode cL_law 3017 = .ok (.iconst 0, 1) := by decide +kernel
theorem dL_law_3018 : decode cL_law 3018 = .ok (.ireturn, 1) := by decide +kernel
theorem dL_law_3019 : decode cL_law 3019 = .ok (.iload 5, 2) := by decide +kernel
theorem dL_law_3021 : decode cL_law 3021 = .ok (.ifCond .ne 15, 3) := by decide +kernel
theorem dL_law_3024 : decode cL_law 3024 = .ok (.aload_n 3, 1) := by decide +kernel
theorem dL_law_3025 : decode cL_law 3025 = .ok (.iconst 0, 1) := by decide +kernel
theorem dL_law_3026 : decode cL_law 3026 = .ok (.laload, 1) := by decide +kernel
theorem dL_law_3027 : decode cL_law 3027 = .ok (.iload 6, 2) := by decide +kernel
theorem dL_law_3029 : decode cL_law 3029 = .ok (.i2l, 1) := by decide +kernel
theorem dL_law_3030 : decode cL_law 3030 = .ok (.lcmp, 1) := by decide +kernel
theorem dL_law_3031 : decode cL_law 3031 = .ok (.ifCond .eq 5, 3) := by decide +kernel
theorem dL_law_3034 : decode cL_law 3034 = .ok (.iconst 0, 1) := by decide +kernel
theorem dL_law_3035 : decode cL_law 3035 = .ok (.ireturn, 1) := by decide +kernel
theorem dL_law_3036 : decode cL_law 3036 = .ok (.goto 66, 3) := by decide +kernel
theorem dL_law_3039 : decode cL_law 3039 = .ok (.aload_n 1, 1) := by decide +kernel
theorem dL_law_3040 : decode cL_law 3040 = .ok (.invokevirtual 297, 3) := by decide +kernel
theorem dL_law_3043 : decode cL_law 3043 = .ok (.aload_n 2, 1) := by decide +kernel
theorem dL_law_3044 : decode cL_law 3044 = .ok (.invokevirtual 300, 3) := by decide +kernel
theorem dL_law_3047 : decode cL_law 3047 = .ok (.if_icmp .eq 55, 3) := by decide +kernel
theorem dL_law_3050 : decode cL_law 3050 = .ok (.iconst 0, 1) := by decide +kernel
theorem dL_law_3051 : decode cL_law 3051 = .ok (.ireturn, 1) := by decide +kernel
theorem dL_law_3052 : decode cL_law 3052 = .ok (.aload_n 1, 1) := by decide +kernel
theorem dL_law_3053 : decode cL_law 3053 = .ok (.aload_n 0, 1) := by decide +kernel
theorem dL_law_3054 : decode cL_law 3054 = .ok (.iload 4, 2) := by decide +kernel
theorem dL_law_3056 : decode cL_law 3056 = .ok (.iconst 1, 1) := by decide +kernel
theorem dL_law_3057 : decode cL_law 3057 = .ok (.iadd, 1) := by decide +kernel
theorem dL_law_3058 : decode cL_law 3058 = .ok (.iaload, 1) := by decide +kernel
theorem dL_law_3059 : decode cL_law 3059 = .ok (.invokevirtual 301, 3) := by decide +kernel
theorem dL_law_3062 : decode cL_law 3062 = .ok (.aload_n 2, 1) := by decide +kernel
theorem dL_law_3063 : decode cL_law 3063 = .ok (.aload_n 0, 1) := by decide +kernel
theorem dL_law_3064 : decode cL_law 3064 = .ok (.iload 4, 2) := by decide +kernel
theorem dL_law_3066 : decode cL_law 3066 = .ok (.iconst 1, 1) := by decide +kernel
theorem dL_law_3067 : decode cL_law 3067 = .ok (.iadd, 1) := by decide +kernel
theorem dL_law_3068 : decode cL_law 3068 = .ok (.iaload, 1) := by decide +kernel
theorem dL_law_3069 : decode cL_law 3069 = .ok (.invokevirtual 304, 3) := by decide +kernel
theorem dL_law_3072 : decode cL_law 3072 = .ok (.if_icmp .eq 30, 3) := by decide +kernel
theorem dL_law_3075 : decode cL_law 3075 = .ok (.iconst 0, 1) := by decide +kernel
theorem dL_law_3076 : decode cL_law 3076 = .ok (.ireturn, 1) := by decide +kernel
theorem dL_law_3077 : decode cL_law 3077 = .ok (.aload_n 1, 1) := by decide +kernel
theorem dL_law_3078 : decode cL_law 3078 = .ok (.aload_n 0, 1) := by decide +kernel
theorem dL_law_3079 : decode cL_law 3079 = .ok (.iload 4, 2) := by decide +kernel
theorem dL_law_3081 : decode cL_law 3081 = .ok (.iconst 1, 1) := by decide +kernel
theorem dL_law_3082 : decode cL_law 3082 = .ok (.iadd, 1) := by decide +kernel
theorem dL_law_3083 : decode cL_law 3083 = .ok (.iaload, 1) := by decide +kernel
theorem dL_law_3084 : decode cL_law 3084 = .ok (.invokevirtual 305, 3) := by decide +kernel
theorem dL_law_3087 : decode cL_law 3087 = .ok (.aload_n 2, 1) := by decide +kernel
theorem dL_law_3088 : decode cL_law 3088 = .ok (.aload_n 0, 1) := by decide +kernel
theorem dL_law_3089 : decode cL_law 3089 = .ok (.iload 4, 2) := by decide +kernel
theorem dL_law_3091 : decode cL_law 3091 = .ok (.iconst 1, 1) := by decide +kernel
theorem dL_law_3092 : decode cL_law 3092 = .ok (.iadd, 1) := by decide +kernel
theorem dL_law_3093 : decode cL_law 3093 = .ok (.iaload, 1) := by decide +kernel
theorem dL_law_3094 : decode cL_law 3094 = .ok (.invokevirtual 308, 3) := by decide +kernel
theorem dL_law_3097 : decode cL_law 3097 = .ok (.if_icmp .eq 5, 3) := by decide +kernel
theorem dL_law_3100 : decode cL_law 3100 = .ok (.iconst 0, 1) := by decide +kernel
theorem dL_law_3101 : decode cL_law 3101 = .ok (.ireturn, 1) := by decide +kernel
theorem dL_law_3102 : decode cL_law 3102 = .ok (.iinc 4 8, 3) := by decide +kernel
theorem dL_law_3105 : decode cL_law 3105 = .ok (.goto (-3082), 3) := by decide +kernel
theorem dL_law_3108 : decode cL_law 3108 = .ok (.iconst 1, 1) := by decide +kernel
theorem dL_law_3109 : decode cL_law 3109 = .ok (.ireturn, 1) := by decide +kernel
